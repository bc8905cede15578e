set_option maxRecDepth 20000 in
theorem ggX8_init_X8_beginsAnew : GoodIn wsX8_init wsX8_beginsAnew := goodIn_r _ [28, 29, 30, 31, 32, 27, 33, 6, 7, 8, 9, 10, 11, 12, 13, 34, 35, 36, 37, 38, 39, 40, 41, 42, 43, 44, 45, 46, 47, 48, 49, 50, 51, 52, 53, 54, 55, 56, 57, 58, 59, 60, 61, 62, 63, 64, 65, 66] (by decide +kernel) (by decide +kernel)
set_option maxRecDepth 20000 in
theorem gX8_init_X8_beginsAnew : GoodIn wsX8_init (wsV RX8 67 RX8 yX8_beginsAnew wsX8_beginsAnew) := goodIn_app (goodIn_of _ (by decide +kernel)) ggX8_init_X8_beginsAnew
theorem dX8_init_0 : decode cX8_init 0 = .ok (.aload_n 0, 1) := by decide +kernel
theorem dX8_init_1 : decode cX8_init 1 = .ok (.invokespecial 1, 3) := by decide +kernel
theorem dX8_init_4 : decode cX8_init 4 = .ok (.aload_n 0, 1) := by decide +kernel
theorem dX8_init_5 : decode cX8_init 5 = .ok (.bipush 7, 2) := by decide +kernel
theorem dX8_init_7 : decode cX8_init 7 = .ok (.newarray .int, 2) := by decide +kernel
theorem dX8_init_9 : decode cX8_init 9 = .ok (.putfield 7, 3) := by decide +kernel
theorem dX8_init_12 : decode cX8_init 12 = .ok (.aload_n 0, 1) := by decide +kernel
theorem dX8_init_13 : decode cX8_init 13 = .ok (.bipush 12, 2) := by decide +kernel
theorem dX8_init_15 : decode cX8_init 15 = .ok (.newarray .int, 2) := by decide +kernel
theorem dX8_init_17 : decode cX8_init 17 = .ok (.putfield 13, 3) := by decide +kernel
theorem dX8_init_20 : decode cX8_init 20 = .ok (.aload_n 0, 1) := by decide +kernel
theorem dX8_init_21 : decode cX8_init 21 = .ok (.bipush 12, 2) := by decide +kernel
theorem dX8_init_23 : decode cX8_init 23 = .ok (.newarray .int, 2) := by decide +kernel
theorem dX8_init_25 : decode cX8_init 25 = .ok (.putfield 16, 3) := by decide +kernel
theorem dX8_init_28 : decode cX8_init 28 = .ok (.aload_n 0, 1) := by decide +kernel
theorem dX8_init_29 : decode cX8_init 29 = .ok (.bipush 12, 2) := by decide +kernel
theorem dX8_init_31 : decode cX8_init 31 = .ok (.newarray .int, 2) := by decide +kernel
theorem dX8_init_33 : decode cX8_init 33 = .ok (.putfield 19, 3) := by decide +kernel
theorem dX8_init_36 : decode cX8_init 36 = .ok (.aload_n 0, 1) := by decide +kernel
theorem dX8_init_37 : decode cX8_init 37 = .ok (.bipush 12, 2) := by decide +kernel
theorem dX8_init_39 : decode cX8_init 39 = .ok (.newarray .int, 2) := by decide +kernel
theorem dX8_init_41 : decode cX8_init 41 = .ok (.putfield 22, 3) := by decide +kernel
theorem dX8_init_44 : decode cX8_init 44 = .ok (.aload_n 0, 1) := by decide +kernel
theorem dX8_init_45 : decode cX8_init 45 = .ok (.bipush 12, 2) := by decide +kernel
theorem dX8_init_47 : decode cX8_init 47 = .ok (.newarray .int, 2) := by decide +kernel
theorem dX8_init_49 : decode cX8_init 49 = .ok (.putfield 25, 3) := by decide +kernel
theorem dX8_init_52 : decode cX8_init 52 = .ok (.aload_n 0, 1) := by decide +kernel
theorem dX8_init_53 : decode cX8_init 53 = .ok (.bipush 12, 2) := by decide +kernel
theorem dX8_init_55 : decode cX8_init 55 = .ok (.newarray .int, 2) := by decide +kernel
theorem dX8_init_57 : decode cX8_init 57 = .ok (.putfield 28, 3) := by decide +kernel
theorem dX8_init_60 : decode cX8_init 60 = .ok (.aload_n 0, 1) := by decide +kernel
theorem dX8_init_61 : decode cX8_init 61 = .ok (.bipush 12, 2) := by decide +kernel
theorem dX8_init_63 : decode cX8_init 63 = .ok (.newarray .int, 2) := by decide +kernel
theorem dX8_init_65 : decode cX8_init 65 = .ok (.putfield 31, 3) := by decide +kernel
theorem dX8_init_68 : decode cX8_init 68 = .ok (.aload_n 0, 1) := by decide +kernel
theorem dX8_init_69 : decode cX8_init 69 = .ok (.bipush 12, 2) := by decide +kernel
theorem dX8_init_71 : decode cX8_init 71 = .ok (.newarray .int, 2) := by decide +kernel
theorem dX8_init_73 : decode cX8_init 73 = .ok (.putfield 34, 3) := by decide +kernel
theorem dX8_init_76 : decode cX8_init 76 = .ok (.aload_n 0, 1) := by decide +kernel
theorem dX8_init_77 : decode cX8_init 77 = .ok (.bipush 64, 2) := by decide +kernel
theorem dX8_init_79 : decode cX8_init 79 = .ok (.newarray .int, 2) := by decide +kernel
theorem dX8_init_81 : decode cX8_init 81 = .ok (.putfield 37, 3) := by decide +kernel
theorem dX8_init_84 : decode cX8_init 84 = .ok (.aload_n 0, 1) := by decide +kernel
theorem dX8_init_85 : decode cX8_init 85 = .ok (.bipush 33, 2) := by decide +kernel
theorem dX8_init_87 : decode cX8_init 87 = .ok (.newarray .int, 2) := by decide +kernel
theorem dX8_init_89 : decode cX8_init 89 = .ok (.putfield 40, 3) := by decide +kernel
theorem dX8_init_92 : decode cX8_init 92 = .ok (.aload_n 0, 1) := by decide +kernel
theorem dX8_init_93 : decode cX8_init 93 = .ok (.bipush 33, 2) := by decide +kernel
theorem dX8_init_95 : decode cX8_init 95 = .ok (.newarray .int, 2) := by decide +kernel
theorem dX8_init_97 : decode cX8_init 97 = .ok (.putfield 43, 3) := by decide +kernel
theorem dX8_init_100 : decode cX8_init 100 = .ok (.aload_n 0, 1) := by decide +kernel
theorem dX8_init_101 : decode cX8_init 101 = .ok (.sipush 132, 3) := by decide +kernel
theorem dX8_init_104 : decode cX8_init 104 = .ok (.newarray .int, 2) := by decide +kernel
theorem dX8_init_106 : decode cX8_init 106 = .ok (.putfield 46, 3) := by decide +kernel
theorem dX8_init_109 : decode cX8_init 109 = .ok (.aload_n 0, 1) := by decide +kernel
theorem dX8_init_110 : decode cX8_init 110 = .ok (.sipush 400, 3) := by decide +kernel
theorem dX8_init_113 : decode cX8_init 113 = .ok (.newarray .int, 2) := by decide +kernel
theorem dX8_init_115 : decode cX8_init 115 = .ok (.putfield 49, 3) := by decide +kernel
theorem dX8_init_118 : decode cX8_init 118 = .ok (.aload_n 0, 1) := by decide +kernel
theorem dX8_init_119 : decode cX8_init 119 = .ok (.bipush 16, 2) := by decide +kernel
theorem dX8_init_121 : decode cX8_init 121 = .ok (.newarray .int, 2) := by decide +kernel
theorem dX8_init_123 : decode cX8_init 123 = .ok (.putfield 52, 3) := by decide +kernel
theorem dX8_init_126 : decode cX8_init 126 = .ok (.aload_n 0, 1) := by decide +kernel
theorem dX8_init_127 : decode cX8_init 127 = .ok (.sipush 301, 3) := by decide +kernel
theorem dX8_init_130 : decode cX8_init 130 = .ok (.newarray .int, 2) := by decide +kernel
theorem dX8_init_132 : decode cX8_init 132 = .ok (.putfield 55, 3) := by decide +kernel
theorem dX8_init_135 : decode cX8_init 135 = .ok (.aload_n 0, 1) := by decide +kernel
theorem dX8_init_136 : decode cX8_init 136 = .ok (.sipush 4096, 3) := by decide +kernel
theorem dX8_init_139 : decode cX8_init 139 = .ok (.newarray .int, 2) := by decide +kernel
theorem dX8_init_141 : decode cX8_init 141 = .ok (.putfield 58, 3) := by decide +kernel
theorem dX8_init_144 : decode cX8_init 144 = .ok (.aload_n 0, 1) := by decide +kernel
theorem dX8_init_145 : decode cX8_init 145 = .ok (.sipush 8192, 3) := by decide +kernel
theorem dX8_init_148 : decode cX8_init 148 = .ok (.newarray .int, 2) := by decide +kernel
theorem dX8_init_150 : decode cX8_init 150 = .ok (.putfield 61, 3) := by decide +kernel
theorem dX8_init_153 : decode cX8_init 153 = .ok (.aload_n 0, 1) := by decide +kernel
theorem dX8_init_154 : decode cX8_init 154 = .ok (.bipush 12, 2) := by decide +kernel
theorem dX8_init_156 : decode cX8_init 156 = .ok (.newarray .int, 2) := by decide +kernel
theorem dX8_init_158 : decode cX8_init 158 = .ok (.putfield 64, 3) := by decide +kernel
theorem dX8_init_161 : decode cX8_init 161 = .ok (.aload_n 0, 1) := by decide +kernel
theorem dX8_init_162 : decode cX8_init 162 = .ok (.invokevirtual 67, 3) := by decide +kernel
theorem dX8_init_165 : decode cX8_init 165 = .ok (.return_, 1) := by decide +kernel
theorem dX8_no_0 : decode cX8_no 0 = .ok (.aload_n 0, 1) := by decide +kernel
theorem dX8_no_1 : decode cX8_no 1 = .ok (.getfield 7, 3) := by decide +kernel
theorem dX8_no_4 : decode cX8_no 4 = .ok (.iload_n 1, 1) := by decide +kernel
theorem dX8_no_5 : decode cX8_no 5 = .ok (.ineg, 1) := by decide +kernel
theorem dX8_no_6 : decode cX8_no 6 = .ok (.dup2, 1) := by decide +kernel
theorem dX8_no_7 : decode cX8_no 7 = .ok (.iaload, 1) := by decide +kernel
theorem dX8_no_8 : decode cX8_no 8 = .ok (.iconst 1, 1) := by decide +kernel
theorem dX8_no_9 : decode cX8_no 9 = .ok (.iadd, 1) := by decide +kernel
theorem dX8_no_10 : decode cX8_no 10 = .ok (.iastore, 1) := by decide +kernel
theorem dX8_no_11 : decode cX8_no 11 = .ok (.iload_n 1, 1) := by decide +kernel
theorem dX8_no_12 : decode cX8_no 12 = .ok (.ireturn, 1) := by decide +kernel
theorem dX8_isIn_0 : decode cX8_isIn 0 = .ok (.iload_n 0, 1) := by decide +kernel
theorem dX8_isIn_1 : decode cX8_isIn 1 = .ok (.iload_n 1, 1) := by decide +kernel
theorem dX8_isIn_2 : decode cX8_isIn 2 = .ok (.if_icmp .lt 12, 3) := by decide +kernel
theorem dX8_isIn_5 : decode cX8_isIn 5 = .ok (.iload_n 0, 1) := by decide +kernel
theorem dX8_isIn_6 : decode cX8_isIn 6 = .ok (.iload_n 2, 1) := by decide +kernel
theorem dX8_isIn_7 : decode cX8_isIn 7 = .ok (.if_icmp .gt 7, 3) := by decide +kernel
theorem dX8_isIn_10 : decode cX8_isIn 10 = .ok (.iconst 1, 1) := by decide +kernel
theorem dX8_isIn_11 : decode cX8_isIn 11 = .ok (.goto 4, 3) := by decide +kernel
theorem dX8_isIn_14 : decode cX8_isIn 14 = .ok (.iconst 0, 1) := by decide +kernel
theorem dX8_isIn_15 : decode cX8_isIn 15 = .ok (.ireturn, 1) := by decide +kernel
theorem dX8_bound_0 : decode cX8_bound 0 = .ok (.iload_n 0, 1) := by decide +kernel
theorem dX8_bound_1 : decode cX8_bound 1 = .ok (.iload_n 1, 1) := by decide +kernel
theorem dX8_bound_2 : decode cX8_bound 2 = .ok (.if_icmp .ge 8, 3) := by decide +kernel
theorem dX8_bound_5 : decode cX8_bound 5 = .ok (.bipush (-4), 2) := by decide +kernel
theorem dX8_bound_7 : decode cX8_bound 7 = .ok (.goto 14, 3) := by decide +kernel
theorem dX8_bound_10 : decode cX8_bound 10 = .ok (.iload_n 0, 1) := by decide +kernel
theorem dX8_bound_11 : decode cX8_bound 11 = .ok (.iload_n 2, 1) := by decide +kernel
theorem dX8_bound_12 : decode cX8_bound 12 = .ok (.if_icmp .le 8, 3) := by decide +kernel
theorem dX8_bound_15 : decode cX8_bound 15 = .ok (.bipush (-6), 2) := by decide +kernel
theorem dX8_bound_17 : decode cX8_bound 17 = .ok (.goto 4, 3) := by decide +kernel
theorem dX8_bound_20 : decode cX8_bound 20 = .ok (.iconst 0, 1) := by decide +kernel
theorem dX8_bound_21 : decode cX8_bound 21 = .ok (.ireturn, 1) := by decide +kernel
theorem dX8_has_0 : decode cX8_has 0 = .ok (.iload_n 0, 1) := by decide +kernel
theorem dX8_has_1 : decode cX8_has 1 = .ok (.iload_n 1, 1) := by decide +kernel
theorem dX8_has_2 : decode cX8_has 2 = .ok (.ishr, 1) := by decide +kernel
theorem dX8_has_3 : decode cX8_has 3 = .ok (.iconst 1, 1) := by decide +kernel
theorem dX8_has_4 : decode cX8_has 4 = .ok (.iand, 1) := by decide +kernel
theorem dX8_has_5 : decode cX8_has 5 = .ok (.iconst 1, 1) := by decide +kernel
theorem dX8_has_6 : decode cX8_has 6 = .ok (.if_icmp .ne 7, 3) := by decide +kernel
theorem dX8_has_9 : decode cX8_has 9 = .ok (.iconst 1, 1) := by decide +kernel
theorem dX8_has_10 : decode cX8_has 10 = .ok (.goto 4, 3) := by decide +kernel
theorem dX8_has_13 : decode cX8_has 13 = .ok (.iconst 0, 1) := by decide +kernel
theorem dX8_has_14 : decode cX8_has 14 = .ok (.ireturn, 1) := by decide +kernel
theorem dX8_bits_0 : decode cX8_bits 0 = .ok (.iconst 0, 1) := by decide +kernel
theorem dX8_bits_1 : decode cX8_bits 1 = .ok (.istore_n 1, 1) := by decide +kernel
theorem dX8_bits_2 : decode cX8_bits 2 = .ok (.iconst 0, 1) := by decide +kernel
theorem dX8_bits_3 : decode cX8_bits 3 = .ok (.istore_n 2, 1) := by decide +kernel
theorem dX8_bits_4 : decode cX8_bits 4 = .ok (.iload_n 2, 1) := by decide +kernel
theorem dX8_bits_5 : decode cX8_bits 5 = .ok (.bipush 31, 2) := by decide +kernel
theorem dX8_bits_7 : decode cX8_bits 7 = .ok (.if_icmp .ge 17, 3) := by decide +kernel
theorem dX8_bits_10 : decode cX8_bits 10 = .ok (.iload_n 1, 1) := by decide +kernel
theorem dX8_bits_11 : decode cX8_bits 11 = .ok (.iload_n 0, 1) := by decide +kernel
theorem dX8_bits_12 : decode cX8_bits 12 = .ok (.iload_n 2, 1) := by decide +kernel
theorem dX8_bits_13 : decode cX8_bits 13 = .ok (.ishr, 1) := by decide +kernel
theorem dX8_bits_14 : decode cX8_bits 14 = .ok (.iconst 1, 1) := by decide +kernel
theorem dX8_bits_15 : decode cX8_bits 15 = .ok (.iand, 1) := by decide +kernel
theorem dX8_bits_16 : decode cX8_bits 16 = .ok (.iadd, 1) := by decide +kernel
theorem dX8_bits_17 : decode cX8_bits 17 = .ok (.istore_n 1, 1) := by decide +kernel
theorem dX8_bits_18 : decode cX8_bits 18 = .ok (.iinc 2 1, 3) := by decide +kernel
theorem dX8_bits_21 : decode cX8_bits 21 = .ok (.goto (-17), 3) := by decide +kernel
theorem dX8_bits_24 : decode cX8_bits 24 = .ok (.iload_n 1, 1) := by decide +kernel
theorem dX8_bits_25 : decode cX8_bits 25 = .ok (.ireturn, 1) := by decide +kernel
set_option maxRecDepth 20000 in
theorem ggX8_beginsAnew_X8_isMore : GoodIn wsX8_beginsAnew wsX8_isMore := goodIn_r _ [6, 7, 1, 8, 9, 10, 11, 12, 13, 14, 15, 16, 17, 18, 19, 20, 21, 22, 23, 24, 25, 26, 27, 28, 29, 30, 31, 32, 33, 34, 35, 36, 37, 38, 39, 40, 41, 42, 43, 44, 45, 46, 47] (by decide +kernel) (by decide +kernel)
set_option maxRecDepth 20000 in
theorem gX8_beginsAnew_X8_isMore : GoodIn wsX8_beginsAnew (wsV RX8 74 RX8 yX8_isMore wsX8_isMore) := goodIn_app (goodIn_of _ (by decide +kernel)) ggX8_beginsAnew_X8_isMore
theorem dX8_beginsAnew_0 : decode cX8_beginsAnew 0 = .ok (.aload_n 0, 1) := by decide +kernel
theorem dX8_beginsAnew_1 : decode cX8_beginsAnew 1 = .ok (.iconst 0, 1) := by decide +kernel
theorem dX8_beginsAnew_2 : decode cX8_beginsAnew 2 = .ok (.putfield 70, 3) := by decide +kernel
theorem dX8_beginsAnew_5 : decode cX8_beginsAnew 5 = .ok (.aload_n 0, 1) := by decide +kernel
theorem dX8_beginsAnew_6 : decode cX8_beginsAnew 6 = .ok (.iconst 1, 1) := by decide +kernel
theorem dX8_beginsAnew_7 : decode cX8_beginsAnew 7 = .ok (.iconst 0, 1) := by decide +kernel
theorem dX8_beginsAnew_8 : decode cX8_beginsAnew 8 = .ok (.iconst 0, 1) := by decide +kernel
theorem dX8_beginsAnew_9 : decode cX8_beginsAnew 9 = .ok (.bipush (-4), 2) := by decide +kernel
theorem dX8_beginsAnew_11 : decode cX8_beginsAnew 11 = .ok (.bipush (-4), 2) := by decide +kernel
theorem dX8_beginsAnew_13 : decode cX8_beginsAnew 13 = .ok (.invokevirtual 74, 3) := by decide +kernel
theorem dX8_beginsAnew_16 : decode cX8_beginsAnew 16 = .ok (.return_, 1) := by decide +kernel
theorem dX8_isMore_0 : decode cX8_isMore 0 = .ok (.aload_n 0, 1) := by decide +kernel
theorem dX8_isMore_1 : decode cX8_isMore 1 = .ok (.getfield 13, 3) := by decide +kernel
theorem dX8_isMore_4 : decode cX8_isMore 4 = .ok (.aload_n 0, 1) := by decide +kernel
theorem dX8_isMore_5 : decode cX8_isMore 5 = .ok (.getfield 70, 3) := by decide +kernel
theorem dX8_isMore_8 : decode cX8_isMore 8 = .ok (.iload_n 1, 1) := by decide +kernel
theorem dX8_isMore_9 : decode cX8_isMore 9 = .ok (.iastore, 1) := by decide +kernel
theorem dX8_isMore_10 : decode cX8_isMore 10 = .ok (.aload_n 0, 1) := by decide +kernel
theorem dX8_isMore_11 : decode cX8_isMore 11 = .ok (.getfield 16, 3) := by decide +kernel
theorem dX8_isMore_14 : decode cX8_isMore 14 = .ok (.aload_n 0, 1) := by decide +kernel
theorem dX8_isMore_15 : decode cX8_isMore 15 = .ok (.getfield 70, 3) := by decide +kernel
theorem dX8_isMore_18 : decode cX8_isMore 18 = .ok (.iload_n 2, 1) := by decide +kernel
theorem dX8_isMore_19 : decode cX8_isMore 19 = .ok (.iastore, 1) := by decide +kernel
theorem dX8_isMore_20 : decode cX8_isMore 20 = .ok (.aload_n 0, 1) := by decide +kernel
theorem dX8_isMore_21 : decode cX8_isMore 21 = .ok (.getfield 19, 3) := by decide +kernel
theorem dX8_isMore_24 : decode cX8_isMore 24 = .ok (.aload_n 0, 1) := by decide +kernel
theorem dX8_isMore_25 : decode cX8_isMore 25 = .ok (.getfield 70, 3) := by decide +kernel
theorem dX8_isMore_28 : decode cX8_isMore 28 = .ok (.iload_n 3, 1) := by decide +kernel
theorem dX8_isMore_29 : decode cX8_isMore 29 = .ok (.iastore, 1) := by decide +kernel
theorem dX8_isMore_30 : decode cX8_isMore 30 = .ok (.aload_n 0, 1) := by decide +kernel
theorem dX8_isMore_31 : decode cX8_isMore 31 = .ok (.getfield 22, 3) := by decide +kernel
theorem dX8_isMore_34 : decode cX8_isMore 34 = .ok (.aload_n 0, 1) := by decide +kernel
theorem dX8_isMore_35 : decode cX8_isMore 35 = .ok (.getfield 70, 3) := by decide +kernel
theorem dX8_isMore_38 : decode cX8_isMore 38 = .ok (.iload 4, 2) := by decide +kernel
theorem dX8_isMore_40 : decode cX8_isMore 40 = .ok (.iastore, 1) := by decide +kernel
theorem dX8_isMore_41 : decode cX8_isMore 41 = .ok (.aload_n 0, 1) := by decide +kernel
theorem dX8_isMore_42 : decode cX8_isMore 42 = .ok (.getfield 25, 3) := by decide +kernel
theorem dX8_isMore_45 : decode cX8_isMore 45 = .ok (.aload_n 0, 1) := by decide +kernel
theorem dX8_isMore_46 : decode cX8_isMore 46 = .ok (.getfield 70, 3) := by decide +kernel
theorem dX8_isMore_49 : decode cX8_isMore 49 = .ok (.iload 5, 2) := by decide +kernel
theorem dX8_isMore_51 : decode cX8_isMore 51 = .ok (.iastore, 1) := by decide +kernel
theorem dX8_isMore_52 : decode cX8_isMore 52 = .ok (.aload_n 0, 1) := by decide +kernel
theorem dX8_isMore_53 : decode cX8_isMore 53 = .ok (.getfield 28, 3) := by decide +kernel
theorem dX8_isMore_56 : decode cX8_isMore 56 = .ok (.aload_n 0, 1) := by decide +kernel
theorem dX8_isMore_57 : decode cX8_isMore 57 = .ok (.getfield 70, 3) := by decide +kernel
theorem dX8_isMore_60 : decode cX8_isMore 60 = .ok (.iconst 1, 1) := by decide +kernel
theorem dX8_isMore_61 : decode cX8_isMore 61 = .ok (.iastore, 1) := by decide +kernel
theorem dX8_isMore_62 : decode cX8_isMore 62 = .ok (.aload_n 0, 1) := by decide +kernel
theorem dX8_isMore_63 : decode cX8_isMore 63 = .ok (.getfield 31, 3) := by decide +kernel
theorem dX8_isMore_66 : decode cX8_isMore 66 = .ok (.aload_n 0, 1) := by decide +kernel
theorem dX8_isMore_67 : decode cX8_isMore 67 = .ok (.getfield 70, 3) := by decide +kernel
theorem dX8_isMore_70 : decode cX8_isMore 70 = .ok (.iconst 0, 1) := by decide +kernel
theorem dX8_isMore_71 : decode cX8_isMore 71 = .ok (.iastore, 1) := by decide +kernel
theorem dX8_isMore_72 : decode cX8_isMore 72 = .ok (.aload_n 0, 1) := by decide +kernel
theorem dX8_isMore_73 : decode cX8_isMore 73 = .ok (.getfield 34, 3) := by decide +kernel
theorem dX8_isMore_76 : decode cX8_isMore 76 = .ok (.aload_n 0, 1) := by decide +kernel
theorem dX8_isMore_77 : decode cX8_isMore 77 = .ok (.getfield 70, 3) := by decide +kernel
theorem dX8_isMore_80 : decode cX8_isMore 80 = .ok (.iconst 0, 1) := by decide +kernel
theorem dX8_isMore_81 : decode cX8_isMore 81 = .ok (.iastore, 1) := by decide +kernel
theorem dX8_isMore_82 : decode cX8_isMore 82 = .ok (.aload_n 0, 1) := by decide +kernel
theorem dX8_isMore_83 : decode cX8_isMore 83 = .ok (.dup, 1) := by decide +kernel
theorem dX8_isMore_84 : decode cX8_isMore 84 = .ok (.getfield 70, 3) := by decide +kernel
theorem dX8_isMore_87 : decode cX8_isMore 87 = .ok (.iconst 1, 1) := by decide +kernel
theorem dX8_isMore_88 : decode cX8_isMore 88 = .ok (.iadd, 1) := by decide +kernel
theorem dX8_isMore_89 : decode cX8_isMore 89 = .ok (.putfield 70, 3) := by decide +kernel
theorem dX8_isMore_92 : decode cX8_isMore 92 = .ok (.return_, 1) := by decide +kernel
set_option maxRecDepth 20000 in
theorem ggX8_isHouse_X8_isIn : GoodIn wsX8_isHouse wsX8_isIn := goodIn_r _ [5] (by decide +kernel) (by decide +kernel)
set_option maxRecDepth 20000 in
theorem gX8_isHouse_X8_isIn : GoodIn wsX8_isHouse (va_wsS RX8 78 yX8_isIn wsX8_isIn) := goodIn_app (goodIn_of _ (by decide +kernel)) ggX8_isHouse_X8_isIn
theorem dX8_isHouse_0 : decode cX8_isHouse 0 = .ok (.iload_n 1, 1) := by decide +kernel
theorem dX8_isHouse_1 : decode cX8_isHouse 1 = .ok (.iconst 0, 1) := by decide +kernel
theorem dX8_isHouse_2 : decode cX8_isHouse 2 = .ok (.aload_n 0, 1) := by decide +kernel
theorem dX8_isHouse_3 : decode cX8_isHouse 3 = .ok (.getfield 70, 3) := by decide +kernel
theorem dX8_isHouse_6 : decode cX8_isHouse 6 = .ok (.iconst 1, 1) := by decide +kernel
theorem dX8_isHouse_7 : decode cX8_isHouse 7 = .ok (.isub, 1) := by decide +kernel
theorem dX8_isHouse_8 : decode cX8_isHouse 8 = .ok (.invokestatic 78, 3) := by decide +kernel
theorem dX8_isHouse_11 : decode cX8_isHouse 11 = .ok (.ireturn, 1) := by decide +kernel
set_option maxRecDepth 20000 in
theorem ggX8_doesStand_X8_isHouse : GoodIn wsX8_doesStand wsX8_isHouse := goodIn_r _ [6, 7, 8, 9, 5, 10, 11, 12, 13, 14, 15, 16, 17, 18, 19, 20, 21, 22, 23, 24, 25, 26, 27, 28, 29, 30, 31, 32, 33, 34, 35, 36, 37, 38, 39, 40, 41, 42, 43] (by decide +kernel) (by decide +kernel)
set_option maxRecDepth 20000 in
theorem gX8_doesStand_X8_isHouse : GoodIn wsX8_doesStand (wsV RX8 82 RX8 yX8_isHouse wsX8_isHouse) := goodIn_app (goodIn_of _ (by decide +kernel)) ggX8_doesStand_X8_isHouse
theorem dX8_doesStand_0 : decode cX8_doesStand 0 = .ok (.aload_n 0, 1) := by decide +kernel
theorem dX8_doesStand_1 : decode cX8_doesStand 1 = .ok (.iload_n 1, 1) := by decide +kernel
theorem dX8_doesStand_2 : decode cX8_doesStand 2 = .ok (.invokevirtual 82, 3) := by decide +kernel
theorem dX8_doesStand_5 : decode cX8_doesStand 5 = .ok (.ifCond .eq 17, 3) := by decide +kernel
theorem dX8_doesStand_8 : decode cX8_doesStand 8 = .ok (.aload_n 0, 1) := by decide +kernel
theorem dX8_doesStand_9 : decode cX8_doesStand 9 = .ok (.getfield 28, 3) := by decide +kernel
theorem dX8_doesStand_12 : decode cX8_doesStand 12 = .ok (.iload_n 1, 1) := by decide +kernel
theorem dX8_doesStand_13 : decode cX8_doesStand 13 = .ok (.iaload, 1) := by decide +kernel
theorem dX8_doesStand_14 : decode cX8_doesStand 14 = .ok (.iconst 1, 1) := by decide +kernel
theorem dX8_doesStand_15 : decode cX8_doesStand 15 = .ok (.if_icmp .ne 7, 3) := by decide +kernel
theorem dX8_doesStand_18 : decode cX8_doesStand 18 = .ok (.iconst 1, 1) := by decide +kernel
theorem dX8_doesStand_19 : decode cX8_doesStand 19 = .ok (.goto 4, 3) := by decide +kernel
theorem dX8_doesStand_22 : decode cX8_doesStand 22 = .ok (.iconst 0, 1) := by decide +kernel
theorem dX8_doesStand_23 : decode cX8_doesStand 23 = .ok (.ireturn, 1) := by decide +kernel
theorem dX8_standing_0 : decode cX8_standing 0 = .ok (.iconst 0, 1) := by decide +kernel
theorem dX8_standing_1 : decode cX8_standing 1 = .ok (.istore_n 1, 1) := by decide +kernel
theorem dX8_standing_2 : decode cX8_standing 2 = .ok (.iconst 0, 1) := by decide +kernel
theorem dX8_standing_3 : decode cX8_standing 3 = .ok (.istore_n 2, 1) := by decide +kernel
theorem dX8_standing_4 : decode cX8_standing 4 = .ok (.iload_n 2, 1) := by decide +kernel
theorem dX8_standing_5 : decode cX8_standing 5 = .ok (.aload_n 0, 1) := by decide +kernel
theorem dX8_standing_6 : decode cX8_standing 6 = .ok (.getfield 70, 3) := by decide +kernel
theorem dX8_standing_9 : decode cX8_standing 9 = .ok (.if_icmp .ge 20, 3) := by decide +kernel
theorem dX8_standing_12 : decode cX8_standing 12 = .ok (.iload_n 1, 1) := by decide +kernel
theorem dX8_standing_13 : decode cX8_standing 13 = .ok (.aload_n 0, 1) := by decide +kernel
theorem dX8_standing_14 : decode cX8_standing 14 = .ok (.getfield 28, 3) := by decide +kernel
theorem dX8_standing_17 : decode cX8_standing 17 = .ok (.iload_n 2, 1) := by decide +kernel
theorem dX8_standing_18 : decode cX8_standing 18 = .ok (.iaload, 1) := by decide +kernel
theorem dX8_standing_19 : decode cX8_standing 19 = .ok (.iload_n 2, 1) := by decide +kernel
theorem dX8_standing_20 : decode cX8_standing 20 = .ok (.ishl, 1) := by decide +kernel
theorem dX8_standing_21 : decode cX8_standing 21 = .ok (.ior, 1) := by decide +kernel
theorem dX8_standing_22 : decode cX8_standing 22 = .ok (.istore_n 1, 1) := by decide +kernel
theorem dX8_standing_23 : decode cX8_standing 23 = .ok (.iinc 2 1, 3) := by decide +kernel
theorem dX8_standing_26 : decode cX8_standing 26 = .ok (.goto (-22), 3) := by decide +kernel
theorem dX8_standing_29 : decode cX8_standing 29 = .ok (.iload_n 1, 1) := by decide +kernel
theorem dX8_standing_30 : decode cX8_standing 30 = .ok (.ireturn, 1) := by decide +kernel
theorem dX8_lends_0 : decode cX8_lends 0 = .ok (.aload_n 0, 1) := by decide +kernel
theorem dX8_lends_1 : decode cX8_lends 1 = .ok (.getfield 16, 3) := by decide +kernel
theorem dX8_lends_4 : decode cX8_lends 4 = .ok (.iload_n 1, 1) := by decide +kernel
theorem dX8_lends_5 : decode cX8_lends 5 = .ok (.iaload, 1) := by decide +kernel
theorem dX8_lends_6 : decode cX8_lends 6 = .ok (.tableswitch 59 1 4 #[30, 59, 45, 57], 30) := by decide +kernel
theorem dX8_lends_36 : decode cX8_lends 36 = .ok (.aload_n 0, 1) := by decide +kernel
theorem dX8_lends_37 : decode cX8_lends 37 = .ok (.getfield 31, 3) := by decide +kernel
theorem dX8_lends_40 : decode cX8_lends 40 = .ok (.iload_n 1, 1) := by decide +kernel
theorem dX8_lends_41 : decode cX8_lends 41 = .ok (.iaload, 1) := by decide +kernel
theorem dX8_lends_42 : decode cX8_lends 42 = .ok (.ifCond .ne 7, 3) := by decide +kernel
theorem dX8_lends_45 : decode cX8_lends 45 = .ok (.iconst 1, 1) := by decide +kernel
theorem dX8_lends_46 : decode cX8_lends 46 = .ok (.goto 4, 3) := by decide +kernel
theorem dX8_lends_49 : decode cX8_lends 49 = .ok (.iconst 0, 1) := by decide +kernel
theorem dX8_lends_50 : decode cX8_lends 50 = .ok (.ireturn, 1) := by decide +kernel
theorem dX8_lends_51 : decode cX8_lends 51 = .ok (.iload_n 2, 1) := by decide +kernel
theorem dX8_lends_52 : decode cX8_lends 52 = .ok (.iconst 2, 1) := by decide +kernel
theorem dX8_lends_53 : decode cX8_lends 53 = .ok (.irem, 1) := by decide +kernel
theorem dX8_lends_54 : decode cX8_lends 54 = .ok (.ifCond .ne 7, 3) := by decide +kernel
theorem dX8_lends_57 : decode cX8_lends 57 = .ok (.iconst 1, 1) := by decide +kernel
theorem dX8_lends_58 : decode cX8_lends 58 = .ok (.goto 4, 3) := by decide +kernel
theorem dX8_lends_61 : decode cX8_lends 61 = .ok (.iconst 0, 1) := by decide +kernel
theorem dX8_lends_62 : decode cX8_lends 62 = .ok (.ireturn, 1) := by decide +kernel
theorem dX8_lends_63 : decode cX8_lends 63 = .ok (.iconst 0, 1) := by decide +kernel
theorem dX8_lends_64 : decode cX8_lends 64 = .ok (.ireturn, 1) := by decide +kernel
theorem dX8_lends_65 : decode cX8_lends 65 = .ok (.iconst 1, 1) := by decide +kernel
theorem dX8_lends_66 : decode cX8_lends 66 = .ok (.ireturn, 1) := by decide +kernel
theorem dX8_fee_0 : decode cX8_fee 0 = .ok (.aload_n 0, 1) := by decide +kernel
theorem dX8_fee_1 : decode cX8_fee 1 = .ok (.getfield 16, 3) := by decide +kernel
theorem dX8_fee_4 : decode cX8_fee 4 = .ok (.iload_n 1, 1) := by decide +kernel
theorem dX8_fee_5 : decode cX8_fee 5 = .ok (.iaload, 1) := by decide +kernel
theorem dX8_fee_6 : decode cX8_fee 6 = .ok (.iconst 2, 1) := by decide +kernel
theorem dX8_fee_7 : decode cX8_fee 7 = .ok (.if_icmp .ne 12, 3) := by decide +kernel
theorem dX8_fee_10 : decode cX8_fee 10 = .ok (.aload_n 0, 1) := by decide +kernel
theorem dX8_fee_11 : decode cX8_fee 11 = .ok (.getfield 19, 3) := by decide +kernel
theorem dX8_fee_14 : decode cX8_fee 14 = .ok (.iload_n 1, 1) := by decide +kernel
theorem dX8_fee_15 : decode cX8_fee 15 = .ok (.iaload, 1) := by decide +kernel
theorem dX8_fee_16 : decode cX8_fee 16 = .ok (.goto 27, 3) := by decide +kernel
theorem dX8_fee_19 : decode cX8_fee 19 = .ok (.aload_n 0, 1) := by decide +kernel
theorem dX8_fee_20 : decode cX8_fee 20 = .ok (.getfield 16, 3) := by decide +kernel
theorem dX8_fee_23 : decode cX8_fee 23 = .ok (.iload_n 1, 1) := by decide +kernel
theorem dX8_fee_24 : decode cX8_fee 24 = .ok (.iaload, 1) := by decide +kernel
theorem dX8_fee_25 : decode cX8_fee 25 = .ok (.iconst 3, 1) := by decide +kernel
theorem dX8_fee_26 : decode cX8_fee 26 = .ok (.if_icmp .ne 16, 3) := by decide +kernel
theorem dX8_fee_29 : decode cX8_fee 29 = .ok (.iconst 2, 1) := by decide +kernel
theorem dX8_fee_30 : decode cX8_fee 30 = .ok (.aload_n 0, 1) := by decide +kernel
theorem dX8_fee_31 : decode cX8_fee 31 = .ok (.getfield 19, 3) := by decide +kernel
theorem dX8_fee_34 : decode cX8_fee 34 = .ok (.iload_n 1, 1) := by decide +kernel
theorem dX8_fee_35 : decode cX8_fee 35 = .ok (.iaload, 1) := by decide +kernel
theorem dX8_fee_36 : decode cX8_fee 36 = .ok (.imul, 1) := by decide +kernel
theorem dX8_fee_37 : decode cX8_fee 37 = .ok (.iconst 1, 1) := by decide +kernel
theorem dX8_fee_38 : decode cX8_fee 38 = .ok (.iadd, 1) := by decide +kernel
theorem dX8_fee_39 : decode cX8_fee 39 = .ok (.goto 4, 3) := by decide +kernel
theorem dX8_fee_42 : decode cX8_fee 42 = .ok (.iconst 0, 1) := by decide +kernel
theorem dX8_fee_43 : decode cX8_fee 43 = .ok (.ireturn, 1) := by decide +kernel
theorem dX8_isThere_0 : decode cX8_isThere 0 = .ok (.iconst 0, 1) := by decide +kernel
theorem dX8_isThere_1 : decode cX8_isThere 1 = .ok (.istore_n 2, 1) := by decide +kernel
theorem dX8_isThere_2 : decode cX8_isThere 2 = .ok (.iload_n 2, 1) := by decide +kernel
theorem dX8_isThere_3 : decode cX8_isThere 3 = .ok (.aload_n 0, 1) := by decide +kernel
theorem dX8_isThere_4 : decode cX8_isThere 4 = .ok (.getfield 70, 3) := by decide +kernel
theorem dX8_isThere_7 : decode cX8_isThere 7 = .ok (.if_icmp .ge 31, 3) := by decide +kernel
theorem dX8_isThere_10 : decode cX8_isThere 10 = .ok (.aload_n 0, 1) := by decide +kernel
theorem dX8_isThere_11 : decode cX8_isThere 11 = .ok (.getfield 28, 3) := by decide +kernel
theorem dX8_isThere_14 : decode cX8_isThere 14 = .ok (.iload_n 2, 1) := by decide +kernel
theorem dX8_isThere_15 : decode cX8_isThere 15 = .ok (.iaload, 1) := by decide +kernel
theorem dX8_isThere_16 : decode cX8_isThere 16 = .ok (.iconst 1, 1) := by decide +kernel
theorem dX8_isThere_17 : decode cX8_isThere 17 = .ok (.if_icmp .ne 15, 3) := by decide +kernel
theorem dX8_isThere_20 : decode cX8_isThere 20 = .ok (.aload_n 0, 1) := by decide +kernel
theorem dX8_isThere_21 : decode cX8_isThere 21 = .ok (.getfield 13, 3) := by decide +kernel
theorem dX8_isThere_24 : decode cX8_isThere 24 = .ok (.iload_n 2, 1) := by decide +kernel
theorem dX8_isThere_25 : decode cX8_isThere 25 = .ok (.iaload, 1) := by decide +kernel
theorem dX8_isThere_26 : decode cX8_isThere 26 = .ok (.iload_n 1, 1) := by decide +kernel
theorem dX8_isThere_27 : decode cX8_isThere 27 = .ok (.if_icmp .ne 5, 3) := by decide +kernel
theorem dX8_isThere_30 : decode cX8_isThere 30 = .ok (.iconst 1, 1) := by decide +kernel
theorem dX8_isThere_31 : decode cX8_isThere 31 = .ok (.ireturn, 1) := by decide +kernel
theorem dX8_isThere_32 : decode cX8_isThere 32 = .ok (.iinc 2 1, 3) := by decide +kernel
theorem dX8_isThere_35 : decode cX8_isThere 35 = .ok (.goto (-33), 3) := by decide +kernel
theorem dX8_isThere_38 : decode cX8_isThere 38 = .ok (.iconst 0, 1) := by decide +kernel
theorem dX8_isThere_39 : decode cX8_isThere 39 = .ok (.ireturn, 1) := by decide +kernel
theorem dX8_latest_0 : decode cX8_latest 0 = .ok (.bipush (-9), 2) := by decide +kernel
theorem dX8_latest_2 : decode cX8_latest 2 = .ok (.istore_n 1, 1) := by decide +kernel
theorem dX8_latest_3 : decode cX8_latest 3 = .ok (.iconst 0, 1) := by decide +kernel
theorem dX8_latest_4 : decode cX8_latest 4 = .ok (.istore_n 2, 1) := by decide +kernel
theorem dX8_latest_5 : decode cX8_latest 5 = .ok (.iload_n 2, 1) := by decide +kernel
theorem dX8_latest_6 : decode cX8_latest 6 = .ok (.aload_n 0, 1) := by decide +kernel
theorem dX8_latest_7 : decode cX8_latest 7 = .ok (.getfield 70, 3) := by decide +kernel
theorem dX8_latest_10 : decode cX8_latest 10 = .ok (.if_icmp .ge 25, 3) := by decide +kernel
theorem dX8_latest_13 : decode cX8_latest 13 = .ok (.aload_n 0, 1) := by decide +kernel
theorem dX8_latest_14 : decode cX8_latest 14 = .ok (.getfield 28, 3) := by decide +kernel
theorem dX8_latest_17 : decode cX8_latest 17 = .ok (.iload_n 2, 1) := by decide +kernel
theorem dX8_latest_18 : decode cX8_latest 18 = .ok (.iaload, 1) := by decide +kernel
theorem dX8_latest_19 : decode cX8_latest 19 = .ok (.iconst 1, 1) := by decide +kernel
theorem dX8_latest_20 : decode cX8_latest 20 = .ok (.if_icmp .ne 7, 3) := by decide +kernel
theorem dX8_latest_23 : decode cX8_latest 23 = .ok (.iload_n 2, 1) := by decide +kernel
theorem dX8_latest_24 : decode cX8_latest 24 = .ok (.goto 4, 3) := by decide +kernel
theorem dX8_latest_27 : decode cX8_latest 27 = .ok (.iload_n 1, 1) := by decide +kernel
theorem dX8_latest_28 : decode cX8_latest 28 = .ok (.istore_n 1, 1) := by decide +kernel
theorem dX8_latest_29 : decode cX8_latest 29 = .ok (.iinc 2 1, 3) := by decide +kernel
theorem dX8_latest_32 : decode cX8_latest 32 = .ok (.goto (-27), 3) := by decide +kernel
theorem dX8_latest_35 : decode cX8_latest 35 = .ok (.iload_n 1, 1) := by decide +kernel
theorem dX8_latest_36 : decode cX8_latest 36 = .ok (.ireturn, 1) := by decide +kernel
set_option maxRecDepth 20000 in
theorem ggX8_isLawful_X8_latest : GoodIn wsX8_isLawful wsX8_latest := goodIn_r _ [6, 7, 8, 9, 10, 11, 12, 13, 14, 15, 16, 17, 18, 19, 20, 21, 22, 23, 24, 25, 26, 27, 28, 29, 30, 31, 32, 33, 34, 35, 36, 37, 38, 39, 40, 41] (by decide +kernel) (by decide +kernel)
set_option maxRecDepth 20000 in
theorem gX8_isLawful_X8_latest : GoodIn wsX8_isLawful (wsV RX8 89 RX8 yX8_latest wsX8_latest) := goodIn_app (goodIn_of _ (by decide +kernel)) ggX8_isLawful_X8_latest
theorem dX8_isLawful_0 : decode cX8_isLawful 0 = .ok (.aload_n 0, 1) := by decide +kernel
theorem dX8_isLawful_1 : decode cX8_isLawful 1 = .ok (.getfield 86, 3) := by decide +kernel
theorem dX8_isLawful_4 : decode cX8_isLawful 4 = .ok (.iconst 2, 1) := by decide +kernel
theorem dX8_isLawful_5 : decode cX8_isLawful 5 = .ok (.if_icmp .ne 14, 3) := by decide +kernel
theorem dX8_isLawful_8 : decode cX8_isLawful 8 = .ok (.iload_n 1, 1) := by decide +kernel
theorem dX8_isLawful_9 : decode cX8_isLawful 9 = .ok (.iload_n 2, 1) := by decide +kernel
theorem dX8_isLawful_10 : decode cX8_isLawful 10 = .ok (.if_icmp .ne 7, 3) := by decide +kernel
theorem dX8_isLawful_13 : decode cX8_isLawful 13 = .ok (.iconst 1, 1) := by decide +kernel
theorem dX8_isLawful_14 : decode cX8_isLawful 14 = .ok (.goto 4, 3) := by decide +kernel
theorem dX8_isLawful_17 : decode cX8_isLawful 17 = .ok (.iconst 0, 1) := by decide +kernel
theorem dX8_isLawful_18 : decode cX8_isLawful 18 = .ok (.ireturn, 1) := by decide +kernel
theorem dX8_isLawful_19 : decode cX8_isLawful 19 = .ok (.aload_n 0, 1) := by decide +kernel
theorem dX8_isLawful_20 : decode cX8_isLawful 20 = .ok (.getfield 86, 3) := by decide +kernel
theorem dX8_isLawful_23 : decode cX8_isLawful 23 = .ok (.iconst 1, 1) := by decide +kernel
theorem dX8_isLawful_24 : decode cX8_isLawful 24 = .ok (.if_icmp .ne 19, 3) := by decide +kernel
theorem dX8_isLawful_27 : decode cX8_isLawful 27 = .ok (.iload_n 1, 1) := by decide +kernel
theorem dX8_isLawful_28 : decode cX8_isLawful 28 = .ok (.aload_n 0, 1) := by decide +kernel
theorem dX8_isLawful_29 : decode cX8_isLawful 29 = .ok (.invokevirtual 89, 3) := by decide +kernel
theorem dX8_isLawful_32 : decode cX8_isLawful 32 = .ok (.if_icmp .eq 11, 3) := by decide +kernel
theorem dX8_isLawful_35 : decode cX8_isLawful 35 = .ok (.iload_n 2, 1) := by decide +kernel
theorem dX8_isLawful_36 : decode cX8_isLawful 36 = .ok (.aload_n 0, 1) := by decide +kernel
theorem dX8_isLawful_37 : decode cX8_isLawful 37 = .ok (.invokevirtual 89, 3) := by decide +kernel
theorem dX8_isLawful_40 : decode cX8_isLawful 40 = .ok (.if_icmp .ne 7, 3) := by decide +kernel
theorem dX8_isLawful_43 : decode cX8_isLawful 43 = .ok (.iconst 1, 1) := by decide +kernel
theorem dX8_isLawful_44 : decode cX8_isLawful 44 = .ok (.goto 4, 3) := by decide +kernel
theorem dX8_isLawful_47 : decode cX8_isLawful 47 = .ok (.iconst 0, 1) := by decide +kernel
theorem dX8_isLawful_48 : decode cX8_isLawful 48 = .ok (.ireturn, 1) := by decide +kernel
set_option maxRecDepth 20000 in
theorem ggX8_mayBe_X8_lends : GoodIn wsX8_mayBe wsX8_lends := goodIn_r _ [6, 7, 8, 24, 25, 26, 27, 28, 29, 30, 31, 32, 33, 34, 35, 36, 37, 38, 39, 40, 41, 42, 43, 44, 45, 46, 47, 48, 49, 50, 51, 52, 53, 54, 55, 56] (by decide +kernel) (by decide +kernel)
set_option maxRecDepth 20000 in
theorem gX8_mayBe_X8_lends : GoodIn wsX8_mayBe (wsV RX8 93 RX8 yX8_lends wsX8_lends) := goodIn_app (goodIn_of _ (by decide +kernel)) ggX8_mayBe_X8_lends
set_option maxRecDepth 20000 in
theorem ggX8_mayBe_X8_isThere : GoodIn wsX8_mayBe wsX8_isThere := goodIn_r _ [12, 13, 14, 1, 24, 25, 26, 27, 28, 29, 30, 31, 32, 33, 34, 35, 36, 37, 38, 39, 40, 41, 42, 43, 44, 45, 46, 47, 48, 49, 50, 51, 52, 53, 54, 55, 56] (by decide +kernel) (by decide +kernel)
set_option maxRecDepth 20000 in
theorem gX8_mayBe_X8_isThere : GoodIn wsX8_mayBe (wsV RX8 97 RX8 yX8_isThere wsX8_isThere) := goodIn_app (goodIn_of _ (by decide +kernel)) ggX8_mayBe_X8_isThere
set_option maxRecDepth 20000 in
theorem ggX8_mayBe_X8_isLawful : GoodIn wsX8_mayBe wsX8_isLawful := goodIn_r _ [18, 19, 20, 21, 22, 5, 23, 13, 14, 24, 25, 26, 27, 28, 29, 30, 31, 32, 33, 34, 35, 36, 37, 38, 39, 40, 41, 42, 43, 44, 45, 46, 47, 48, 49, 50, 51, 52, 53, 54, 55, 56] (by decide +kernel) (by decide +kernel)
set_option maxRecDepth 20000 in
theorem gX8_mayBe_X8_isLawful : GoodIn wsX8_mayBe (wsV RX8 100 RX8 yX8_isLawful wsX8_isLawful) := goodIn_app (goodIn_of _ (by decide +kernel)) ggX8_mayBe_X8_isLawful
theorem dX8_mayBe_0 : decode cX8_mayBe 0 = .ok (.aload_n 0, 1) := by decide +kernel
theorem dX8_mayBe_1 : decode cX8_mayBe 1 = .ok (.getfield 13, 3) := by decide +kernel
theorem dX8_mayBe_4 : decode cX8_mayBe 4 = .ok (.iload_n 1, 1) := by decide +kernel
theorem dX8_mayBe_5 : decode cX8_mayBe 5 = .ok (.iaload, 1) := by decide +kernel
theorem dX8_mayBe_6 : decode cX8_mayBe 6 = .ok (.aload_n 0, 1) := by decide +kernel
theorem dX8_mayBe_7 : decode cX8_mayBe 7 = .ok (.getfield 13, 3) := by decide +kernel
theorem dX8_mayBe_10 : decode cX8_mayBe 10 = .ok (.iload_n 2, 1) := by decide +kernel
theorem dX8_mayBe_11 : decode cX8_mayBe 11 = .ok (.iaload, 1) := by decide +kernel
theorem dX8_mayBe_12 : decode cX8_mayBe 12 = .ok (.iadd, 1) := by decide +kernel
theorem dX8_mayBe_13 : decode cX8_mayBe 13 = .ok (.istore_n 3, 1) := by decide +kernel
theorem dX8_mayBe_14 : decode cX8_mayBe 14 = .ok (.aload_n 0, 1) := by decide +kernel
theorem dX8_mayBe_15 : decode cX8_mayBe 15 = .ok (.iload_n 1, 1) := by decide +kernel
theorem dX8_mayBe_16 : decode cX8_mayBe 16 = .ok (.iload_n 3, 1) := by decide +kernel
theorem dX8_mayBe_17 : decode cX8_mayBe 17 = .ok (.invokevirtual 93, 3) := by decide +kernel
theorem dX8_mayBe_20 : decode cX8_mayBe 20 = .ok (.ifCond .eq 40, 3) := by decide +kernel
theorem dX8_mayBe_23 : decode cX8_mayBe 23 = .ok (.aload_n 0, 1) := by decide +kernel
theorem dX8_mayBe_24 : decode cX8_mayBe 24 = .ok (.iload_n 2, 1) := by decide +kernel
theorem dX8_mayBe_25 : decode cX8_mayBe 25 = .ok (.iload_n 3, 1) := by decide +kernel
theorem dX8_mayBe_26 : decode cX8_mayBe 26 = .ok (.invokevirtual 93, 3) := by decide +kernel
theorem dX8_mayBe_29 : decode cX8_mayBe 29 = .ok (.ifCond .eq 31, 3) := by decide +kernel
theorem dX8_mayBe_32 : decode cX8_mayBe 32 = .ok (.iload_n 3, 1) := by decide +kernel
theorem dX8_mayBe_33 : decode cX8_mayBe 33 = .ok (.sipush 9999, 3) := by decide +kernel
theorem dX8_mayBe_36 : decode cX8_mayBe 36 = .ok (.if_icmp .gt 24, 3) := by decide +kernel
theorem dX8_mayBe_39 : decode cX8_mayBe 39 = .ok (.aload_n 0, 1) := by decide +kernel
theorem dX8_mayBe_40 : decode cX8_mayBe 40 = .ok (.iload_n 3, 1) := by decide +kernel
theorem dX8_mayBe_41 : decode cX8_mayBe 41 = .ok (.invokevirtual 97, 3) := by decide +kernel
theorem dX8_mayBe_44 : decode cX8_mayBe 44 = .ok (.ifCond .ne 16, 3) := by decide +kernel
theorem dX8_mayBe_47 : decode cX8_mayBe 47 = .ok (.aload_n 0, 1) := by decide +kernel
theorem dX8_mayBe_48 : decode cX8_mayBe 48 = .ok (.iload_n 1, 1) := by decide +kernel
theorem dX8_mayBe_49 : decode cX8_mayBe 49 = .ok (.iload_n 2, 1) := by decide +kernel
theorem dX8_mayBe_50 : decode cX8_mayBe 50 = .ok (.invokevirtual 100, 3) := by decide +kernel
theorem dX8_mayBe_53 : decode cX8_mayBe 53 = .ok (.ifCond .eq 7, 3) := by decide +kernel
theorem dX8_mayBe_56 : decode cX8_mayBe 56 = .ok (.iconst 1, 1) := by decide +kernel
theorem dX8_mayBe_57 : decode cX8_mayBe 57 = .ok (.goto 4, 3) := by decide +kernel
theorem dX8_mayBe_60 : decode cX8_mayBe 60 = .ok (.iconst 0, 1) := by decide +kernel
theorem dX8_mayBe_61 : decode cX8_mayBe 61 = .ok (.ireturn, 1) := by decide +kernel
set_option maxRecDepth 20000 in
theorem ggX8_isUsed_X8_fee : GoodIn wsX8_isUsed wsX8_fee := goodIn_r _ [9, 3, 10, 11, 12, 13, 14, 15, 16, 17, 18, 19, 20, 21, 22, 23, 24, 25, 26, 27, 28, 29, 30, 31, 32, 33, 34, 35, 36, 37, 38, 39, 40, 41, 42, 43] (by decide +kernel) (by decide +kernel)
set_option maxRecDepth 20000 in
theorem gX8_isUsed_X8_fee : GoodIn wsX8_isUsed (wsV RX8 103 RX8 yX8_fee wsX8_fee) := goodIn_app (goodIn_of _ (by decide +kernel)) ggX8_isUsed_X8_fee
theorem dX8_isUsed_0 : decode cX8_isUsed 0 = .ok (.aload_n 0, 1) := by decide +kernel
theorem dX8_isUsed_1 : decode cX8_isUsed 1 = .ok (.getfield 31, 3) := by decide +kernel
theorem dX8_isUsed_4 : decode cX8_isUsed 4 = .ok (.iload_n 1, 1) := by decide +kernel
theorem dX8_isUsed_5 : decode cX8_isUsed 5 = .ok (.dup2, 1) := by decide +kernel
theorem dX8_isUsed_6 : decode cX8_isUsed 6 = .ok (.iaload, 1) := by decide +kernel
theorem dX8_isUsed_7 : decode cX8_isUsed 7 = .ok (.iconst 1, 1) := by decide +kernel
theorem dX8_isUsed_8 : decode cX8_isUsed 8 = .ok (.iadd, 1) := by decide +kernel
theorem dX8_isUsed_9 : decode cX8_isUsed 9 = .ok (.iastore, 1) := by decide +kernel
theorem dX8_isUsed_10 : decode cX8_isUsed 10 = .ok (.aload_n 0, 1) := by decide +kernel
theorem dX8_isUsed_11 : decode cX8_isUsed 11 = .ok (.getfield 34, 3) := by decide +kernel
theorem dX8_isUsed_14 : decode cX8_isUsed 14 = .ok (.iload_n 1, 1) := by decide +kernel
theorem dX8_isUsed_15 : decode cX8_isUsed 15 = .ok (.dup2, 1) := by decide +kernel
theorem dX8_isUsed_16 : decode cX8_isUsed 16 = .ok (.iaload, 1) := by decide +kernel
theorem dX8_isUsed_17 : decode cX8_isUsed 17 = .ok (.aload_n 0, 1) := by decide +kernel
theorem dX8_isUsed_18 : decode cX8_isUsed 18 = .ok (.iload_n 1, 1) := by decide +kernel
theorem dX8_isUsed_19 : decode cX8_isUsed 19 = .ok (.invokevirtual 103, 3) := by decide +kernel
theorem dX8_isUsed_22 : decode cX8_isUsed 22 = .ok (.iadd, 1) := by decide +kernel
theorem dX8_isUsed_23 : decode cX8_isUsed 23 = .ok (.iastore, 1) := by decide +kernel
theorem dX8_isUsed_24 : decode cX8_isUsed 24 = .ok (.aload_n 0, 1) := by decide +kernel
theorem dX8_isUsed_25 : decode cX8_isUsed 25 = .ok (.getfield 16, 3) := by decide +kernel
theorem dX8_isUsed_28 : decode cX8_isUsed 28 = .ok (.iload_n 1, 1) := by decide +kernel
theorem dX8_isUsed_29 : decode cX8_isUsed 29 = .ok (.iaload, 1) := by decide +kernel
theorem dX8_isUsed_30 : decode cX8_isUsed 30 = .ok (.iconst 1, 1) := by decide +kernel
theorem dX8_isUsed_31 : decode cX8_isUsed 31 = .ok (.if_icmp .ne 10, 3) := by decide +kernel
theorem dX8_isUsed_34 : decode cX8_isUsed 34 = .ok (.aload_n 0, 1) := by decide +kernel
theorem dX8_isUsed_35 : decode cX8_isUsed 35 = .ok (.getfield 28, 3) := by decide +kernel
theorem dX8_isUsed_38 : decode cX8_isUsed 38 = .ok (.iload_n 1, 1) := by decide +kernel
theorem dX8_isUsed_39 : decode cX8_isUsed 39 = .ok (.iconst 0, 1) := by decide +kernel
theorem dX8_isUsed_40 : decode cX8_isUsed 40 = .ok (.iastore, 1) := by decide +kernel
theorem dX8_isUsed_41 : decode cX8_isUsed 41 = .ok (.return_, 1) := by decide +kernel
set_option maxRecDepth 20000 in
theorem ggX8_builds_X8_isUsed : GoodIn wsX8_builds wsX8_isUsed := goodIn_r _ [6, 7, 8, 9, 10, 11, 12, 13, 5, 14, 15, 23, 24, 25, 26, 27, 28, 29, 30, 31, 32, 33, 34, 35, 36, 37, 38, 39, 40, 41, 42, 43, 44, 45, 46, 47, 48, 49, 50, 51, 52, 53, 54, 55] (by decide +kernel) (by decide +kernel)
set_option maxRecDepth 20000 in
theorem gX8_builds_X8_isUsed : GoodIn wsX8_builds (wsV RX8 107 RX8 yX8_isUsed wsX8_isUsed) := goodIn_app (goodIn_of _ (by decide +kernel)) ggX8_builds_X8_isUsed
set_option maxRecDepth 20000 in
theorem ggX8_builds_X8_isMore : GoodIn wsX8_builds wsX8_isMore := goodIn_r _ [19, 1, 20, 9, 15, 21, 22, 10, 7, 8, 23, 24, 25, 26, 27, 28, 29, 30, 31, 32, 33, 34, 35, 36, 37, 38, 39, 40, 41, 42, 43, 44, 45, 46, 47, 48, 49, 50, 51, 52, 53, 54, 55] (by decide +kernel) (by decide +kernel)
set_option maxRecDepth 20000 in
theorem gX8_builds_X8_isMore : GoodIn wsX8_builds (wsV RX8 74 RX8 yX8_isMore wsX8_isMore) := goodIn_app (goodIn_of _ (by decide +kernel)) ggX8_builds_X8_isMore
theorem dX8_builds_0 : decode cX8_builds 0 = .ok (.aload_n 0, 1) := by decide +kernel
theorem dX8_builds_1 : decode cX8_builds 1 = .ok (.getfield 13, 3) := by decide +kernel
theorem dX8_builds_4 : decode cX8_builds 4 = .ok (.iload_n 1, 1) := by decide +kernel
theorem dX8_builds_5 : decode cX8_builds 5 = .ok (.iaload, 1) := by decide +kernel
theorem dX8_builds_6 : decode cX8_builds 6 = .ok (.aload_n 0, 1) := by decide +kernel
theorem dX8_builds_7 : decode cX8_builds 7 = .ok (.getfield 13, 3) := by decide +kernel
theorem dX8_builds_10 : decode cX8_builds 10 = .ok (.iload_n 2, 1) := by decide +kernel
theorem dX8_builds_11 : decode cX8_builds 11 = .ok (.iaload, 1) := by decide +kernel
theorem dX8_builds_12 : decode cX8_builds 12 = .ok (.iadd, 1) := by decide +kernel
theorem dX8_builds_13 : decode cX8_builds 13 = .ok (.istore 5, 2) := by decide +kernel
theorem dX8_builds_15 : decode cX8_builds 15 = .ok (.aload_n 0, 1) := by decide +kernel
theorem dX8_builds_16 : decode cX8_builds 16 = .ok (.iload_n 1, 1) := by decide +kernel
theorem dX8_builds_17 : decode cX8_builds 17 = .ok (.invokevirtual 107, 3) := by decide +kernel
theorem dX8_builds_20 : decode cX8_builds 20 = .ok (.aload_n 0, 1) := by decide +kernel
theorem dX8_builds_21 : decode cX8_builds 21 = .ok (.iload_n 2, 1) := by decide +kernel
theorem dX8_builds_22 : decode cX8_builds 22 = .ok (.invokevirtual 107, 3) := by decide +kernel
theorem dX8_builds_25 : decode cX8_builds 25 = .ok (.aload_n 0, 1) := by decide +kernel
theorem dX8_builds_26 : decode cX8_builds 26 = .ok (.iload 5, 2) := by decide +kernel
theorem dX8_builds_28 : decode cX8_builds 28 = .ok (.iload_n 3, 1) := by decide +kernel
theorem dX8_builds_29 : decode cX8_builds 29 = .ok (.iload 4, 2) := by decide +kernel
theorem dX8_builds_31 : decode cX8_builds 31 = .ok (.iload_n 1, 1) := by decide +kernel
theorem dX8_builds_32 : decode cX8_builds 32 = .ok (.iload_n 2, 1) := by decide +kernel
theorem dX8_builds_33 : decode cX8_builds 33 = .ok (.invokevirtual 74, 3) := by decide +kernel
theorem dX8_builds_36 : decode cX8_builds 36 = .ok (.return_, 1) := by decide +kernel
theorem dX8_hasFallen_0 : decode cX8_hasFallen 0 = .ok (.iload_n 1, 1) := by decide +kernel
theorem dX8_hasFallen_1 : decode cX8_hasFallen 1 = .ok (.ifCond .lt 16, 3) := by decide +kernel
theorem dX8_hasFallen_4 : decode cX8_hasFallen 4 = .ok (.aload_n 0, 1) := by decide +kernel
theorem dX8_hasFallen_5 : decode cX8_hasFallen 5 = .ok (.getfield 28, 3) := by decide +kernel
theorem dX8_hasFallen_8 : decode cX8_hasFallen 8 = .ok (.iload_n 1, 1) := by decide +kernel
theorem dX8_hasFallen_9 : decode cX8_hasFallen 9 = .ok (.iaload, 1) := by decide +kernel
theorem dX8_hasFallen_10 : decode cX8_hasFallen 10 = .ok (.ifCond .ne 7, 3) := by decide +kernel
theorem dX8_hasFallen_13 : decode cX8_hasFallen 13 = .ok (.iconst 1, 1) := by decide +kernel
theorem dX8_hasFallen_14 : decode cX8_hasFallen 14 = .ok (.goto 4, 3) := by decide +kernel
theorem dX8_hasFallen_17 : decode cX8_hasFallen 17 = .ok (.iconst 0, 1) := by decide +kernel
theorem dX8_hasFallen_18 : decode cX8_hasFallen 18 = .ok (.ireturn, 1) := by decide +kernel
set_option maxRecDepth 20000 in
theorem ggX8_fallsWith_X8_hasFallen : GoodIn wsX8_fallsWith wsX8_hasFallen := goodIn_r _ [10, 1, 11, 12, 13, 14, 15, 16, 17, 18, 19, 20, 21, 22, 23, 24, 25, 26, 27, 28, 29, 30, 31, 32, 33, 34, 35, 36, 37, 38, 39, 40, 41, 42, 43] (by decide +kernel) (by decide +kernel)
set_option maxRecDepth 20000 in
theorem gX8_fallsWith_X8_hasFallen : GoodIn wsX8_fallsWith (wsV RX8 114 RX8 yX8_hasFallen wsX8_hasFallen) := goodIn_app (goodIn_of _ (by decide +kernel)) ggX8_fallsWith_X8_hasFallen
theorem dX8_fallsWith_0 : decode cX8_fallsWith 0 = .ok (.aload_n 0, 1) := by decide +kernel
theorem dX8_fallsWith_1 : decode cX8_fallsWith 1 = .ok (.getfield 28, 3) := by decide +kernel
theorem dX8_fallsWith_4 : decode cX8_fallsWith 4 = .ok (.iload_n 1, 1) := by decide +kernel
theorem dX8_fallsWith_5 : decode cX8_fallsWith 5 = .ok (.iaload, 1) := by decide +kernel
theorem dX8_fallsWith_6 : decode cX8_fallsWith 6 = .ok (.iconst 1, 1) := by decide +kernel
theorem dX8_fallsWith_7 : decode cX8_fallsWith 7 = .ok (.if_icmp .ne 51, 3) := by decide +kernel
theorem dX8_fallsWith_10 : decode cX8_fallsWith 10 = .ok (.aload_n 0, 1) := by decide +kernel
theorem dX8_fallsWith_11 : decode cX8_fallsWith 11 = .ok (.getfield 111, 3) := by decide +kernel
theorem dX8_fallsWith_14 : decode cX8_fallsWith 14 = .ok (.iconst 1, 1) := by decide +kernel
theorem dX8_fallsWith_15 : decode cX8_fallsWith 15 = .ok (.if_icmp .eq 13, 3) := by decide +kernel
theorem dX8_fallsWith_18 : decode cX8_fallsWith 18 = .ok (.aload_n 0, 1) := by decide +kernel
theorem dX8_fallsWith_19 : decode cX8_fallsWith 19 = .ok (.getfield 16, 3) := by decide +kernel
theorem dX8_fallsWith_22 : decode cX8_fallsWith 22 = .ok (.iload_n 1, 1) := by decide +kernel
theorem dX8_fallsWith_23 : decode cX8_fallsWith 23 = .ok (.iaload, 1) := by decide +kernel
theorem dX8_fallsWith_24 : decode cX8_fallsWith 24 = .ok (.iconst 5, 1) := by decide +kernel
theorem dX8_fallsWith_25 : decode cX8_fallsWith 25 = .ok (.if_icmp .ne 33, 3) := by decide +kernel
theorem dX8_fallsWith_28 : decode cX8_fallsWith 28 = .ok (.aload_n 0, 1) := by decide +kernel
theorem dX8_fallsWith_29 : decode cX8_fallsWith 29 = .ok (.aload_n 0, 1) := by decide +kernel
theorem dX8_fallsWith_30 : decode cX8_fallsWith 30 = .ok (.getfield 22, 3) := by decide +kernel
theorem dX8_fallsWith_33 : decode cX8_fallsWith 33 = .ok (.iload_n 1, 1) := by decide +kernel
theorem dX8_fallsWith_34 : decode cX8_fallsWith 34 = .ok (.iaload, 1) := by decide +kernel
theorem dX8_fallsWith_35 : decode cX8_fallsWith 35 = .ok (.invokevirtual 114, 3) := by decide +kernel
theorem dX8_fallsWith_38 : decode cX8_fallsWith 38 = .ok (.ifCond .ne 16, 3) := by decide +kernel
theorem dX8_fallsWith_41 : decode cX8_fallsWith 41 = .ok (.aload_n 0, 1) := by decide +kernel
theorem dX8_fallsWith_42 : decode cX8_fallsWith 42 = .ok (.aload_n 0, 1) := by decide +kernel
theorem dX8_fallsWith_43 : decode cX8_fallsWith 43 = .ok (.getfield 25, 3) := by decide +kernel
theorem dX8_fallsWith_46 : decode cX8_fallsWith 46 = .ok (.iload_n 1, 1) := by decide +kernel
theorem dX8_fallsWith_47 : decode cX8_fallsWith 47 = .ok (.iaload, 1) := by decide +kernel
theorem dX8_fallsWith_48 : decode cX8_fallsWith 48 = .ok (.invokevirtual 114, 3) := by decide +kernel
theorem dX8_fallsWith_51 : decode cX8_fallsWith 51 = .ok (.ifCond .eq 7, 3) := by decide +kernel
theorem dX8_fallsWith_54 : decode cX8_fallsWith 54 = .ok (.iconst 1, 1) := by decide +kernel
theorem dX8_fallsWith_55 : decode cX8_fallsWith 55 = .ok (.goto 4, 3) := by decide +kernel
theorem dX8_fallsWith_58 : decode cX8_fallsWith 58 = .ok (.iconst 0, 1) := by decide +kernel
theorem dX8_fallsWith_59 : decode cX8_fallsWith 59 = .ok (.ireturn, 1) := by decide +kernel
set_option maxRecDepth 20000 in
theorem ggX8_burns_X8_fallsWith : GoodIn wsX8_burns wsX8_fallsWith := goodIn_r _ [7, 1, 8, 9, 10, 11, 12, 13, 14, 6, 15, 16, 17, 18, 19, 20, 21, 22, 23, 24, 25, 26, 27, 28, 29, 30, 31, 32, 33, 34, 35, 36, 37, 38, 39, 40, 41, 42, 43, 44, 45, 46, 47, 48] (by decide +kernel) (by decide +kernel)
set_option maxRecDepth 20000 in
theorem gX8_burns_X8_fallsWith : GoodIn wsX8_burns (wsV RX8 117 RX8 yX8_fallsWith wsX8_fallsWith) := goodIn_app (goodIn_of _ (by decide +kernel)) ggX8_burns_X8_fallsWith
theorem dX8_burns_0 : decode cX8_burns 0 = .ok (.aload_n 0, 1) := by decide +kernel
theorem dX8_burns_1 : decode cX8_burns 1 = .ok (.getfield 28, 3) := by decide +kernel
theorem dX8_burns_4 : decode cX8_burns 4 = .ok (.iload_n 1, 1) := by decide +kernel
theorem dX8_burns_5 : decode cX8_burns 5 = .ok (.iconst 0, 1) := by decide +kernel
theorem dX8_burns_6 : decode cX8_burns 6 = .ok (.iastore, 1) := by decide +kernel
theorem dX8_burns_7 : decode cX8_burns 7 = .ok (.iconst 1, 1) := by decide +kernel
theorem dX8_burns_8 : decode cX8_burns 8 = .ok (.istore_n 2, 1) := by decide +kernel
theorem dX8_burns_9 : decode cX8_burns 9 = .ok (.iload_n 2, 1) := by decide +kernel
theorem dX8_burns_10 : decode cX8_burns 10 = .ok (.ifCond .eq 44, 3) := by decide +kernel
theorem dX8_burns_13 : decode cX8_burns 13 = .ok (.iconst 0, 1) := by decide +kernel
theorem dX8_burns_14 : decode cX8_burns 14 = .ok (.istore_n 2, 1) := by decide +kernel
theorem dX8_burns_15 : decode cX8_burns 15 = .ok (.iconst 0, 1) := by decide +kernel
theorem dX8_burns_16 : decode cX8_burns 16 = .ok (.istore_n 3, 1) := by decide +kernel
theorem dX8_burns_17 : decode cX8_burns 17 = .ok (.iload_n 3, 1) := by decide +kernel
theorem dX8_burns_18 : decode cX8_burns 18 = .ok (.aload_n 0, 1) := by decide +kernel
theorem dX8_burns_19 : decode cX8_burns 19 = .ok (.getfield 70, 3) := by decide +kernel
theorem dX8_burns_22 : decode cX8_burns 22 = .ok (.if_icmp .ge 29, 3) := by decide +kernel
theorem dX8_burns_25 : decode cX8_burns 25 = .ok (.aload_n 0, 1) := by decide +kernel
theorem dX8_burns_26 : decode cX8_burns 26 = .ok (.iload_n 3, 1) := by decide +kernel
theorem dX8_burns_27 : decode cX8_burns 27 = .ok (.invokevirtual 117, 3) := by decide +kernel
theorem dX8_burns_30 : decode cX8_burns 30 = .ok (.ifCond .ne 6, 3) := by decide +kernel
theorem dX8_burns_33 : decode cX8_burns 33 = .ok (.goto 12, 3) := by decide +kernel
theorem dX8_burns_36 : decode cX8_burns 36 = .ok (.aload_n 0, 1) := by decide +kernel
theorem dX8_burns_37 : decode cX8_burns 37 = .ok (.getfield 28, 3) := by decide +kernel
theorem dX8_burns_40 : decode cX8_burns 40 = .ok (.iload_n 3, 1) := by decide +kernel
theorem dX8_burns_41 : decode cX8_burns 41 = .ok (.iconst 0, 1) := by decide +kernel
theorem dX8_burns_42 : decode cX8_burns 42 = .ok (.iastore, 1) := by decide +kernel
theorem dX8_burns_43 : decode cX8_burns 43 = .ok (.iconst 1, 1) := by decide +kernel
theorem dX8_burns_44 : decode cX8_burns 44 = .ok (.istore_n 2, 1) := by decide +kernel
theorem dX8_burns_45 : decode cX8_burns 45 = .ok (.iinc 3 1, 3) := by decide +kernel
theorem dX8_burns_48 : decode cX8_burns 48 = .ok (.goto (-31), 3) := by decide +kernel
theorem dX8_burns_51 : decode cX8_burns 51 = .ok (.goto (-42), 3) := by decide +kernel
theorem dX8_burns_54 : decode cX8_burns 54 = .ok (.return_, 1) := by decide +kernel
set_option maxRecDepth 20000 in
theorem ggX8_feed_X8_bound : GoodIn wsX8_feed wsX8_bound := goodIn_r _ [6] (by decide +kernel) (by decide +kernel)
set_option maxRecDepth 20000 in
theorem gX8_feed_X8_bound : GoodIn wsX8_feed (va_wsS RX8 120 yX8_bound wsX8_bound) := goodIn_app (goodIn_of _ (by decide +kernel)) ggX8_feed_X8_bound
set_option maxRecDepth 20000 in
theorem ggX8_feed_X8_no : GoodIn wsX8_feed wsX8_no := goodIn_r _ [10, 11, 12, 13, 14, 15, 16, 17, 18, 19, 20, 21, 22, 23, 24, 25, 26, 27, 28, 29, 30, 31, 32, 33, 34, 35, 36, 37, 38, 39, 40, 41, 42, 43, 44] (by decide +kernel) (by decide +kernel)
set_option maxRecDepth 20000 in
theorem gX8_feed_X8_no : GoodIn wsX8_feed (wsV RX8 127 RX8 yX8_no wsX8_no) := goodIn_app (goodIn_of _ (by decide +kernel)) ggX8_feed_X8_no
theorem dX8_feed_0 : decode cX8_feed 0 = .ok (.iload_n 1, 1) := by decide +kernel
theorem dX8_feed_1 : decode cX8_feed 1 = .ok (.iconst 0, 1) := by decide +kernel
theorem dX8_feed_2 : decode cX8_feed 2 = .ok (.sipush 255, 3) := by decide +kernel
theorem dX8_feed_5 : decode cX8_feed 5 = .ok (.invokestatic 120, 3) := by decide +kernel
theorem dX8_feed_8 : decode cX8_feed 8 = .ok (.istore_n 2, 1) := by decide +kernel
theorem dX8_feed_9 : decode cX8_feed 9 = .ok (.iload_n 2, 1) := by decide +kernel
theorem dX8_feed_10 : decode cX8_feed 10 = .ok (.ifCond .ne 15, 3) := by decide +kernel
theorem dX8_feed_13 : decode cX8_feed 13 = .ok (.aload_n 0, 1) := by decide +kernel
theorem dX8_feed_14 : decode cX8_feed 14 = .ok (.getfield 124, 3) := by decide +kernel
theorem dX8_feed_17 : decode cX8_feed 17 = .ok (.bipush 64, 2) := by decide +kernel
theorem dX8_feed_19 : decode cX8_feed 19 = .ok (.if_icmp .ne 6, 3) := by decide +kernel
theorem dX8_feed_22 : decode cX8_feed 22 = .ok (.bipush (-6), 2) := by decide +kernel
theorem dX8_feed_24 : decode cX8_feed 24 = .ok (.istore_n 2, 1) := by decide +kernel
theorem dX8_feed_25 : decode cX8_feed 25 = .ok (.iload_n 2, 1) := by decide +kernel
theorem dX8_feed_26 : decode cX8_feed 26 = .ok (.ifCond .eq 9, 3) := by decide +kernel
theorem dX8_feed_29 : decode cX8_feed 29 = .ok (.aload_n 0, 1) := by decide +kernel
theorem dX8_feed_30 : decode cX8_feed 30 = .ok (.iload_n 2, 1) := by decide +kernel
theorem dX8_feed_31 : decode cX8_feed 31 = .ok (.invokevirtual 127, 3) := by decide +kernel
theorem dX8_feed_34 : decode cX8_feed 34 = .ok (.ireturn, 1) := by decide +kernel
theorem dX8_feed_35 : decode cX8_feed 35 = .ok (.aload_n 0, 1) := by decide +kernel
theorem dX8_feed_36 : decode cX8_feed 36 = .ok (.getfield 37, 3) := by decide +kernel
theorem dX8_feed_39 : decode cX8_feed 39 = .ok (.aload_n 0, 1) := by decide +kernel
theorem dX8_feed_40 : decode cX8_feed 40 = .ok (.getfield 124, 3) := by decide +kernel
theorem dX8_feed_43 : decode cX8_feed 43 = .ok (.iload_n 1, 1) := by decide +kernel
theorem dX8_feed_44 : decode cX8_feed 44 = .ok (.iastore, 1) := by decide +kernel
theorem dX8_feed_45 : decode cX8_feed 45 = .ok (.aload_n 0, 1) := by decide +kernel
theorem dX8_feed_46 : decode cX8_feed 46 = .ok (.dup, 1) := by decide +kernel
theorem dX8_feed_47 : decode cX8_feed 47 = .ok (.getfield 124, 3) := by decide +kernel
theorem dX8_feed_50 : decode cX8_feed 50 = .ok (.iconst 1, 1) := by decide +kernel
theorem dX8_feed_51 : decode cX8_feed 51 = .ok (.iadd, 1) := by decide +kernel
theorem dX8_feed_52 : decode cX8_feed 52 = .ok (.putfield 124, 3) := by decide +kernel
theorem dX8_feed_55 : decode cX8_feed 55 = .ok (.aload_n 0, 1) := by decide +kernel
theorem dX8_feed_56 : decode cX8_feed 56 = .ok (.getfield 124, 3) := by decide +kernel
theorem dX8_feed_59 : decode cX8_feed 59 = .ok (.ireturn, 1) := by decide +kernel
theorem dX8_sign_0 : decode cX8_sign 0 = .ok (.aload_n 0, 1) := by decide +kernel
theorem dX8_sign_1 : decode cX8_sign 1 = .ok (.getfield 130, 3) := by decide +kernel
theorem dX8_sign_4 : decode cX8_sign 4 = .ok (.aload_n 0, 1) := by decide +kernel
theorem dX8_sign_5 : decode cX8_sign 5 = .ok (.getfield 124, 3) := by decide +kernel
theorem dX8_sign_8 : decode cX8_sign 8 = .ok (.if_icmp .ge 15, 3) := by decide +kernel
theorem dX8_sign_11 : decode cX8_sign 11 = .ok (.aload_n 0, 1) := by decide +kernel
theorem dX8_sign_12 : decode cX8_sign 12 = .ok (.getfield 37, 3) := by decide +kernel
theorem dX8_sign_15 : decode cX8_sign 15 = .ok (.aload_n 0, 1) := by decide +kernel
theorem dX8_sign_16 : decode cX8_sign 16 = .ok (.getfield 130, 3) := by decide +kernel
theorem dX8_sign_19 : decode cX8_sign 19 = .ok (.iaload, 1) := by decide +kernel
theorem dX8_sign_20 : decode cX8_sign 20 = .ok (.goto 4, 3) := by decide +kernel
theorem dX8_sign_23 : decode cX8_sign 23 = .ok (.iconst (-1), 1) := by decide +kernel
theorem dX8_sign_24 : decode cX8_sign 24 = .ok (.ireturn, 1) := by decide +kernel
set_option maxRecDepth 20000 in
theorem ggX8_reads_X8_sign : GoodIn wsX8_reads wsX8_sign := goodIn_r _ [6, 1, 7, 8, 9, 10, 11, 12, 13, 14, 15, 16, 17, 18, 19, 20, 21, 22, 23, 24, 25, 26, 27, 28, 29, 30, 31, 32, 33, 34, 35, 36, 37, 38, 39, 40, 41] (by decide +kernel) (by decide +kernel)
set_option maxRecDepth 20000 in
theorem gX8_reads_X8_sign : GoodIn wsX8_reads (wsV RX8 133 RX8 yX8_sign wsX8_sign) := goodIn_app (goodIn_of _ (by decide +kernel)) ggX8_reads_X8_sign
theorem dX8_reads_0 : decode cX8_reads 0 = .ok (.aload_n 0, 1) := by decide +kernel
theorem dX8_reads_1 : decode cX8_reads 1 = .ok (.invokevirtual 133, 3) := by decide +kernel
theorem dX8_reads_4 : decode cX8_reads 4 = .ok (.iload_n 1, 1) := by decide +kernel
theorem dX8_reads_5 : decode cX8_reads 5 = .ok (.if_icmp .eq 5, 3) := by decide +kernel
theorem dX8_reads_8 : decode cX8_reads 8 = .ok (.iconst 0, 1) := by decide +kernel
theorem dX8_reads_9 : decode cX8_reads 9 = .ok (.ireturn, 1) := by decide +kernel
theorem dX8_reads_10 : decode cX8_reads 10 = .ok (.aload_n 0, 1) := by decide +kernel
theorem dX8_reads_11 : decode cX8_reads 11 = .ok (.dup, 1) := by decide +kernel
theorem dX8_reads_12 : decode cX8_reads 12 = .ok (.getfield 130, 3) := by decide +kernel
theorem dX8_reads_15 : decode cX8_reads 15 = .ok (.iconst 1, 1) := by decide +kernel
theorem dX8_reads_16 : decode cX8_reads 16 = .ok (.iadd, 1) := by decide +kernel
theorem dX8_reads_17 : decode cX8_reads 17 = .ok (.putfield 130, 3) := by decide +kernel
theorem dX8_reads_20 : decode cX8_reads 20 = .ok (.iconst 1, 1) := by decide +kernel
theorem dX8_reads_21 : decode cX8_reads 21 = .ok (.ireturn, 1) := by decide +kernel
set_option maxRecDepth 20000 in
theorem ggX8_readsNumber_X8_sign : GoodIn wsX8_readsNumber wsX8_sign := goodIn_r _ [8, 1, 9, 10, 14, 15, 16, 17, 18, 19, 20, 21, 22, 23, 24, 25, 26, 27, 28, 29, 30, 31, 32, 33, 34, 35, 36, 37, 38, 39, 40, 41, 42, 43, 44, 45, 46] (by decide +kernel) (by decide +kernel)
set_option maxRecDepth 20000 in
theorem gX8_readsNumber_X8_sign : GoodIn wsX8_readsNumber (wsV RX8 133 RX8 yX8_sign wsX8_sign) := goodIn_app (goodIn_of _ (by decide +kernel)) ggX8_readsNumber_X8_sign
set_option maxRecDepth 20000 in
theorem ggX8_readsNumber_X8_isIn : GoodIn wsX8_readsNumber wsX8_isIn := goodIn_r _ [13] (by decide +kernel) (by decide +kernel)
set_option maxRecDepth 20000 in
theorem gX8_readsNumber_X8_isIn : GoodIn wsX8_readsNumber (va_wsS RX8 78 yX8_isIn wsX8_isIn) := goodIn_app (goodIn_of _ (by decide +kernel)) ggX8_readsNumber_X8_isIn
theorem dX8_readsNumber_0 : decode cX8_readsNumber 0 = .ok (.iconst 0, 1) := by decide +kernel
theorem dX8_readsNumber_1 : decode cX8_readsNumber 1 = .ok (.istore_n 2, 1) := by decide +kernel
theorem dX8_readsNumber_2 : decode cX8_readsNumber 2 = .ok (.iconst 0, 1) := by decide +kernel
theorem dX8_readsNumber_3 : decode cX8_readsNumber 3 = .ok (.istore_n 3, 1) := by decide +kernel
theorem dX8_readsNumber_4 : decode cX8_readsNumber 4 = .ok (.iload_n 3, 1) := by decide +kernel
theorem dX8_readsNumber_5 : decode cX8_readsNumber 5 = .ok (.iload_n 1, 1) := by decide +kernel
theorem dX8_readsNumber_6 : decode cX8_readsNumber 6 = .ok (.if_icmp .ge 46, 3) := by decide +kernel
theorem dX8_readsNumber_9 : decode cX8_readsNumber 9 = .ok (.aload_n 0, 1) := by decide +kernel
theorem dX8_readsNumber_10 : decode cX8_readsNumber 10 = .ok (.invokevirtual 133, 3) := by decide +kernel
theorem dX8_readsNumber_13 : decode cX8_readsNumber 13 = .ok (.bipush 48, 2) := by decide +kernel
theorem dX8_readsNumber_15 : decode cX8_readsNumber 15 = .ok (.bipush 57, 2) := by decide +kernel
theorem dX8_readsNumber_17 : decode cX8_readsNumber 17 = .ok (.invokestatic 78, 3) := by decide +kernel
theorem dX8_readsNumber_20 : decode cX8_readsNumber 20 = .ok (.ifCond .eq 32, 3) := by decide +kernel
theorem dX8_readsNumber_23 : decode cX8_readsNumber 23 = .ok (.bipush 10, 2) := by decide +kernel
theorem dX8_readsNumber_25 : decode cX8_readsNumber 25 = .ok (.iload_n 2, 1) := by decide +kernel
theorem dX8_readsNumber_26 : decode cX8_readsNumber 26 = .ok (.imul, 1) := by decide +kernel
theorem dX8_readsNumber_27 : decode cX8_readsNumber 27 = .ok (.aload_n 0, 1) := by decide +kernel
theorem dX8_readsNumber_28 : decode cX8_readsNumber 28 = .ok (.invokevirtual 133, 3) := by decide +kernel
theorem dX8_readsNumber_31 : decode cX8_readsNumber 31 = .ok (.iadd, 1) := by decide +kernel
theorem dX8_readsNumber_32 : decode cX8_readsNumber 32 = .ok (.bipush 48, 2) := by decide +kernel
theorem dX8_readsNumber_34 : decode cX8_readsNumber 34 = .ok (.isub, 1) := by decide +kernel
theorem dX8_readsNumber_35 : decode cX8_readsNumber 35 = .ok (.istore_n 2, 1) := by decide +kernel
theorem dX8_readsNumber_36 : decode cX8_readsNumber 36 = .ok (.aload_n 0, 1) := by decide +kernel
theorem dX8_readsNumber_37 : decode cX8_readsNumber 37 = .ok (.dup, 1) := by decide +kernel
theorem dX8_readsNumber_38 : decode cX8_readsNumber 38 = .ok (.getfield 130, 3) := by decide +kernel
theorem dX8_readsNumber_41 : decode cX8_readsNumber 41 = .ok (.iconst 1, 1) := by decide +kernel
theorem dX8_readsNumber_42 : decode cX8_readsNumber 42 = .ok (.iadd, 1) := by decide +kernel
theorem dX8_readsNumber_43 : decode cX8_readsNumber 43 = .ok (.putfield 130, 3) := by decide +kernel
theorem dX8_readsNumber_46 : decode cX8_readsNumber 46 = .ok (.iinc 3 1, 3) := by decide +kernel
theorem dX8_readsNumber_49 : decode cX8_readsNumber 49 = .ok (.goto (-45), 3) := by decide +kernel
theorem dX8_readsNumber_52 : decode cX8_readsNumber 52 = .ok (.aload_n 0, 1) := by decide +kernel
theorem dX8_readsNumber_53 : decode cX8_readsNumber 53 = .ok (.getfield 46, 3) := by decide +kernel
theorem dX8_readsNumber_56 : decode cX8_readsNumber 56 = .ok (.aload_n 0, 1) := by decide +kernel
theorem dX8_readsNumber_57 : decode cX8_readsNumber 57 = .ok (.getfield 136, 3) := by decide +kernel
theorem dX8_readsNumber_60 : decode cX8_readsNumber 60 = .ok (.iload_n 2, 1) := by decide +kernel
theorem dX8_readsNumber_61 : decode cX8_readsNumber 61 = .ok (.iastore, 1) := by decide +kernel
theorem dX8_readsNumber_62 : decode cX8_readsNumber 62 = .ok (.aload_n 0, 1) := by decide +kernel
theorem dX8_readsNumber_63 : decode cX8_readsNumber 63 = .ok (.dup, 1) := by decide +kernel
theorem dX8_readsNumber_64 : decode cX8_readsNumber 64 = .ok (.getfield 136, 3) := by decide +kernel
theorem dX8_readsNumber_67 : decode cX8_readsNumber 67 = .ok (.iconst 1, 1) := by decide +kernel
theorem dX8_readsNumber_68 : decode cX8_readsNumber 68 = .ok (.iadd, 1) := by decide +kernel
theorem dX8_readsNumber_69 : decode cX8_readsNumber 69 = .ok (.putfield 136, 3) := by decide +kernel
theorem dX8_readsNumber_72 : decode cX8_readsNumber 72 = .ok (.iload_n 3, 1) := by decide +kernel
theorem dX8_readsNumber_73 : decode cX8_readsNumber 73 = .ok (.ifCond .le 7, 3) := by decide +kernel
theorem dX8_readsNumber_76 : decode cX8_readsNumber 76 = .ok (.iconst 1, 1) := by decide +kernel
theorem dX8_readsNumber_77 : decode cX8_readsNumber 77 = .ok (.goto 4, 3) := by decide +kernel
theorem dX8_readsNumber_80 : decode cX8_readsNumber 80 = .ok (.iconst 0, 1) := by decide +kernel
theorem dX8_readsNumber_81 : decode cX8_readsNumber 81 = .ok (.ireturn, 1) := by decide +kernel
set_option maxRecDepth 20000 in
theorem ggX8_readsAll_X8_readsNumber : GoodIn wsX8_readsAll wsX8_readsNumber := goodIn_r _ [5, 6, 7, 8, 9, 10, 11, 4, 12, 13, 14, 15, 16, 17, 22, 23, 24, 25, 26, 27, 28, 29, 30, 31, 32, 33, 34, 35, 36, 37, 38, 39, 40, 41, 42, 43, 44, 45, 46, 47, 48, 49, 50, 51, 52, 53, 54] (by decide +kernel) (by decide +kernel)
set_option maxRecDepth 20000 in
theorem gX8_readsAll_X8_readsNumber : GoodIn wsX8_readsAll (wsV RX8 139 RX8 yX8_readsNumber wsX8_readsNumber) := goodIn_app (goodIn_of _ (by decide +kernel)) ggX8_readsAll_X8_readsNumber
set_option maxRecDepth 20000 in
theorem ggX8_readsAll_X8_reads : GoodIn wsX8_readsAll wsX8_reads := goodIn_r _ [21, 6, 9, 10, 11, 4, 12, 13, 14, 22, 23, 24, 25, 26, 27, 28, 29, 30, 31, 32, 33, 34, 35, 36, 37, 38, 39, 40, 41, 42, 43, 44, 45, 46, 47, 48, 49, 50, 51, 52, 53, 54] (by decide +kernel) (by decide +kernel)
set_option maxRecDepth 20000 in
theorem gX8_readsAll_X8_reads : GoodIn wsX8_readsAll (wsV RX8 142 RX8 yX8_reads wsX8_reads) := goodIn_app (goodIn_of _ (by decide +kernel)) ggX8_readsAll_X8_reads
theorem dX8_readsAll_0 : decode cX8_readsAll 0 = .ok (.iload_n 1, 1) := by decide +kernel
theorem dX8_readsAll_1 : decode cX8_readsAll 1 = .ok (.lookupswitch 119 #[(97, 35), (98, 91), (108, 97)], 35) := by decide +kernel
theorem dX8_readsAll_36 : decode cX8_readsAll 36 = .ok (.aload_n 0, 1) := by decide +kernel
theorem dX8_readsAll_37 : decode cX8_readsAll 37 = .ok (.iconst 2, 1) := by decide +kernel
theorem dX8_readsAll_38 : decode cX8_readsAll 38 = .ok (.invokevirtual 139, 3) := by decide +kernel
theorem dX8_readsAll_41 : decode cX8_readsAll 41 = .ok (.ifCond .eq 49, 3) := by decide +kernel
theorem dX8_readsAll_44 : decode cX8_readsAll 44 = .ok (.aload_n 0, 1) := by decide +kernel
theorem dX8_readsAll_45 : decode cX8_readsAll 45 = .ok (.bipush 44, 2) := by decide +kernel
theorem dX8_readsAll_47 : decode cX8_readsAll 47 = .ok (.invokevirtual 142, 3) := by decide +kernel
theorem dX8_readsAll_50 : decode cX8_readsAll 50 = .ok (.ifCond .eq 40, 3) := by decide +kernel
theorem dX8_readsAll_53 : decode cX8_readsAll 53 = .ok (.aload_n 0, 1) := by decide +kernel
theorem dX8_readsAll_54 : decode cX8_readsAll 54 = .ok (.iconst 2, 1) := by decide +kernel
theorem dX8_readsAll_55 : decode cX8_readsAll 55 = .ok (.invokevirtual 139, 3) := by decide +kernel
theorem dX8_readsAll_58 : decode cX8_readsAll 58 = .ok (.ifCond .eq 32, 3) := by decide +kernel
theorem dX8_readsAll_61 : decode cX8_readsAll 61 = .ok (.aload_n 0, 1) := by decide +kernel
theorem dX8_readsAll_62 : decode cX8_readsAll 62 = .ok (.bipush 44, 2) := by decide +kernel
theorem dX8_readsAll_64 : decode cX8_readsAll 64 = .ok (.invokevirtual 142, 3) := by decide +kernel
theorem dX8_readsAll_67 : decode cX8_readsAll 67 = .ok (.ifCond .eq 23, 3) := by decide +kernel
theorem dX8_readsAll_70 : decode cX8_readsAll 70 = .ok (.aload_n 0, 1) := by decide +kernel
theorem dX8_readsAll_71 : decode cX8_readsAll 71 = .ok (.iconst 1, 1) := by decide +kernel
theorem dX8_readsAll_72 : decode cX8_readsAll 72 = .ok (.invokevirtual 139, 3) := by decide +kernel
theorem dX8_readsAll_75 : decode cX8_readsAll 75 = .ok (.ifCond .eq 15, 3) := by decide +kernel
theorem dX8_readsAll_78 : decode cX8_readsAll 78 = .ok (.aload_n 0, 1) := by decide +kernel
theorem dX8_readsAll_79 : decode cX8_readsAll 79 = .ok (.iconst 1, 1) := by decide +kernel
theorem dX8_readsAll_80 : decode cX8_readsAll 80 = .ok (.invokevirtual 139, 3) := by decide +kernel
theorem dX8_readsAll_83 : decode cX8_readsAll 83 = .ok (.ifCond .eq 7, 3) := by decide +kernel
theorem dX8_readsAll_86 : decode cX8_readsAll 86 = .ok (.iconst 1, 1) := by decide +kernel
theorem dX8_readsAll_87 : decode cX8_readsAll 87 = .ok (.goto 4, 3) := by decide +kernel
theorem dX8_readsAll_90 : decode cX8_readsAll 90 = .ok (.iconst 0, 1) := by decide +kernel
theorem dX8_readsAll_91 : decode cX8_readsAll 91 = .ok (.ireturn, 1) := by decide +kernel
theorem dX8_readsAll_92 : decode cX8_readsAll 92 = .ok (.aload_n 0, 1) := by decide +kernel
theorem dX8_readsAll_93 : decode cX8_readsAll 93 = .ok (.iconst 2, 1) := by decide +kernel
theorem dX8_readsAll_94 : decode cX8_readsAll 94 = .ok (.invokevirtual 139, 3) := by decide +kernel
theorem dX8_readsAll_97 : decode cX8_readsAll 97 = .ok (.ireturn, 1) := by decide +kernel
theorem dX8_readsAll_98 : decode cX8_readsAll 98 = .ok (.aload_n 0, 1) := by decide +kernel
theorem dX8_readsAll_99 : decode cX8_readsAll 99 = .ok (.iconst 1, 1) := by decide +kernel
theorem dX8_readsAll_100 : decode cX8_readsAll 100 = .ok (.invokevirtual 139, 3) := by decide +kernel
theorem dX8_readsAll_103 : decode cX8_readsAll 103 = .ok (.ifCond .eq 15, 3) := by decide +kernel
theorem dX8_readsAll_106 : decode cX8_readsAll 106 = .ok (.aload_n 0, 1) := by decide +kernel
theorem dX8_readsAll_107 : decode cX8_readsAll 107 = .ok (.iconst 1, 1) := by decide +kernel
theorem dX8_readsAll_108 : decode cX8_readsAll 108 = .ok (.invokevirtual 139, 3) := by decide +kernel
theorem dX8_readsAll_111 : decode cX8_readsAll 111 = .ok (.ifCond .eq 7, 3) := by decide +kernel
theorem dX8_readsAll_114 : decode cX8_readsAll 114 = .ok (.iconst 1, 1) := by decide +kernel
theorem dX8_readsAll_115 : decode cX8_readsAll 115 = .ok (.goto 4, 3) := by decide +kernel
theorem dX8_readsAll_118 : decode cX8_readsAll 118 = .ok (.iconst 0, 1) := by decide +kernel
theorem dX8_readsAll_119 : decode cX8_readsAll 119 = .ok (.ireturn, 1) := by decide +kernel
theorem dX8_readsAll_120 : decode cX8_readsAll 120 = .ok (.iconst 1, 1) := by decide +kernel
theorem dX8_readsAll_121 : decode cX8_readsAll 121 = .ok (.ireturn, 1) := by decide +kernel
set_option maxRecDepth 20000 in
theorem ggX8_statement_X8_sign : GoodIn wsX8_statement wsX8_sign := goodIn_r _ [10, 4, 11, 12, 29, 30, 31, 32, 33, 34, 35, 36, 37, 38, 39, 40, 41, 42, 43, 44, 45, 46, 47, 48, 49, 50, 51, 52, 53, 54, 55, 56, 57, 58, 59, 60, 61] (by decide +kernel) (by decide +kernel)
set_option maxRecDepth 20000 in
theorem gX8_statement_X8_sign : GoodIn wsX8_statement (wsV RX8 133 RX8 yX8_sign wsX8_sign) := goodIn_app (goodIn_of _ (by decide +kernel)) ggX8_statement_X8_sign
set_option maxRecDepth 20000 in
theorem ggX8_statement_X8_readsAll : GoodIn wsX8_statement wsX8_readsAll := goodIn_r _ [16, 17, 18, 19, 9, 20, 4, 21, 5, 6, 7, 8, 10, 11, 12, 22, 23, 24, 25, 26, 27, 28, 29, 30, 31, 32, 33, 34, 35, 36, 37, 38, 39, 40, 41, 42, 43, 44, 45, 46, 47, 48, 49, 50, 51, 52, 53, 54, 55, 56, 57, 58, 59, 60, 61] (by decide +kernel) (by decide +kernel)
set_option maxRecDepth 20000 in
theorem gX8_statement_X8_readsAll : GoodIn wsX8_statement (wsV RX8 148 RX8 yX8_readsAll wsX8_readsAll) := goodIn_app (goodIn_of _ (by decide +kernel)) ggX8_statement_X8_readsAll
set_option maxRecDepth 20000 in
theorem ggX8_statement_X8_reads : GoodIn wsX8_statement wsX8_reads := goodIn_r _ [28, 4, 6, 7, 8, 9, 10, 11, 12, 29, 30, 31, 32, 33, 34, 35, 36, 37, 38, 39, 40, 41, 42, 43, 44, 45, 46, 47, 48, 49, 50, 51, 52, 53, 54, 55, 56, 57, 58, 59, 60, 61] (by decide +kernel) (by decide +kernel)
set_option maxRecDepth 20000 in
theorem gX8_statement_X8_reads : GoodIn wsX8_statement (wsV RX8 142 RX8 yX8_reads wsX8_reads) := goodIn_app (goodIn_of _ (by decide +kernel)) ggX8_statement_X8_reads
theorem dX8_statement_0 : decode cX8_statement 0 = .ok (.aload_n 0, 1) := by decide +kernel
theorem dX8_statement_1 : decode cX8_statement 1 = .ok (.invokevirtual 133, 3) := by decide +kernel
theorem dX8_statement_4 : decode cX8_statement 4 = .ok (.istore_n 1, 1) := by decide +kernel
theorem dX8_statement_5 : decode cX8_statement 5 = .ok (.iload_n 1, 1) := by decide +kernel
theorem dX8_statement_6 : decode cX8_statement 6 = .ok (.bipush 97, 2) := by decide +kernel
theorem dX8_statement_8 : decode cX8_statement 8 = .ok (.if_icmp .eq 23, 3) := by decide +kernel
theorem dX8_statement_11 : decode cX8_statement 11 = .ok (.iload_n 1, 1) := by decide +kernel
theorem dX8_statement_12 : decode cX8_statement 12 = .ok (.bipush 98, 2) := by decide +kernel
theorem dX8_statement_14 : decode cX8_statement 14 = .ok (.if_icmp .eq 17, 3) := by decide +kernel
theorem dX8_statement_17 : decode cX8_statement 17 = .ok (.iload_n 1, 1) := by decide +kernel
theorem dX8_statement_18 : decode cX8_statement 18 = .ok (.bipush 108, 2) := by decide +kernel
theorem dX8_statement_20 : decode cX8_statement 20 = .ok (.if_icmp .eq 11, 3) := by decide +kernel
theorem dX8_statement_23 : decode cX8_statement 23 = .ok (.iload_n 1, 1) := by decide +kernel
theorem dX8_statement_24 : decode cX8_statement 24 = .ok (.bipush 110, 2) := by decide +kernel
theorem dX8_statement_26 : decode cX8_statement 26 = .ok (.if_icmp .eq 5, 3) := by decide +kernel
theorem dX8_statement_29 : decode cX8_statement 29 = .ok (.iconst 0, 1) := by decide +kernel
theorem dX8_statement_30 : decode cX8_statement 30 = .ok (.ireturn, 1) := by decide +kernel
theorem dX8_statement_31 : decode cX8_statement 31 = .ok (.aload_n 0, 1) := by decide +kernel
theorem dX8_statement_32 : decode cX8_statement 32 = .ok (.getfield 40, 3) := by decide +kernel
theorem dX8_statement_35 : decode cX8_statement 35 = .ok (.aload_n 0, 1) := by decide +kernel
theorem dX8_statement_36 : decode cX8_statement 36 = .ok (.getfield 145, 3) := by decide +kernel
theorem dX8_statement_39 : decode cX8_statement 39 = .ok (.iload_n 1, 1) := by decide +kernel
theorem dX8_statement_40 : decode cX8_statement 40 = .ok (.iastore, 1) := by decide +kernel
theorem dX8_statement_41 : decode cX8_statement 41 = .ok (.aload_n 0, 1) := by decide +kernel
theorem dX8_statement_42 : decode cX8_statement 42 = .ok (.getfield 43, 3) := by decide +kernel
theorem dX8_statement_45 : decode cX8_statement 45 = .ok (.aload_n 0, 1) := by decide +kernel
theorem dX8_statement_46 : decode cX8_statement 46 = .ok (.getfield 145, 3) := by decide +kernel
theorem dX8_statement_49 : decode cX8_statement 49 = .ok (.aload_n 0, 1) := by decide +kernel
theorem dX8_statement_50 : decode cX8_statement 50 = .ok (.getfield 130, 3) := by decide +kernel
theorem dX8_statement_53 : decode cX8_statement 53 = .ok (.iastore, 1) := by decide +kernel
theorem dX8_statement_54 : decode cX8_statement 54 = .ok (.aload_n 0, 1) := by decide +kernel
theorem dX8_statement_55 : decode cX8_statement 55 = .ok (.iconst 4, 1) := by decide +kernel
theorem dX8_statement_56 : decode cX8_statement 56 = .ok (.aload_n 0, 1) := by decide +kernel
theorem dX8_statement_57 : decode cX8_statement 57 = .ok (.getfield 145, 3) := by decide +kernel
theorem dX8_statement_60 : decode cX8_statement 60 = .ok (.imul, 1) := by decide +kernel
theorem dX8_statement_61 : decode cX8_statement 61 = .ok (.putfield 136, 3) := by decide +kernel
theorem dX8_statement_64 : decode cX8_statement 64 = .ok (.aload_n 0, 1) := by decide +kernel
theorem dX8_statement_65 : decode cX8_statement 65 = .ok (.dup, 1) := by decide +kernel
theorem dX8_statement_66 : decode cX8_statement 66 = .ok (.getfield 130, 3) := by decide +kernel
theorem dX8_statement_69 : decode cX8_statement 69 = .ok (.iconst 1, 1) := by decide +kernel
theorem dX8_statement_70 : decode cX8_statement 70 = .ok (.iadd, 1) := by decide +kernel
theorem dX8_statement_71 : decode cX8_statement 71 = .ok (.putfield 130, 3) := by decide +kernel
theorem dX8_statement_74 : decode cX8_statement 74 = .ok (.aload_n 0, 1) := by decide +kernel
theorem dX8_statement_75 : decode cX8_statement 75 = .ok (.iload_n 1, 1) := by decide +kernel
theorem dX8_statement_76 : decode cX8_statement 76 = .ok (.invokevirtual 148, 3) := by decide +kernel
theorem dX8_statement_79 : decode cX8_statement 79 = .ok (.ifCond .eq 16, 3) := by decide +kernel
theorem dX8_statement_82 : decode cX8_statement 82 = .ok (.aload_n 0, 1) := by decide +kernel
theorem dX8_statement_83 : decode cX8_statement 83 = .ok (.bipush 59, 2) := by decide +kernel
theorem dX8_statement_85 : decode cX8_statement 85 = .ok (.invokevirtual 142, 3) := by decide +kernel
theorem dX8_statement_88 : decode cX8_statement 88 = .ok (.ifCond .eq 7, 3) := by decide +kernel
theorem dX8_statement_91 : decode cX8_statement 91 = .ok (.iconst 1, 1) := by decide +kernel
theorem dX8_statement_92 : decode cX8_statement 92 = .ok (.goto 4, 3) := by decide +kernel
theorem dX8_statement_95 : decode cX8_statement 95 = .ok (.iconst 0, 1) := by decide +kernel
theorem dX8_statement_96 : decode cX8_statement 96 = .ok (.ireturn, 1) := by decide +kernel
set_option maxRecDepth 20000 in
theorem ggX8_comesNew_X8_doesStand : GoodIn wsX8_comesNew wsX8_doesStand := goodIn_r _ [7, 8, 9, 10, 11, 6, 12, 2, 13, 14, 15, 60, 61, 62, 63, 64, 65, 66, 67, 68, 69, 70, 71, 72, 73, 74, 75, 76, 77, 78, 79, 80, 81, 82, 83, 84, 85, 86, 87, 88, 89, 90, 91, 92] (by decide +kernel) (by decide +kernel)
set_option maxRecDepth 20000 in
theorem gX8_comesNew_X8_doesStand : GoodIn wsX8_comesNew (wsV RX8 151 RX8 yX8_doesStand wsX8_doesStand) := goodIn_app (goodIn_of _ (by decide +kernel)) ggX8_comesNew_X8_doesStand
set_option maxRecDepth 20000 in
theorem ggX8_comesNew_X8_mayBe : GoodIn wsX8_comesNew wsX8_mayBe := goodIn_r _ [19, 20, 21, 22, 23, 6, 24, 25, 26, 27, 28, 29, 30, 2, 8, 31, 32, 33, 34, 35, 36, 37, 38, 39, 60, 61, 62, 63, 64, 65, 66, 67, 68, 69, 70, 71, 72, 73, 74, 75, 76, 77, 78, 79, 80, 81, 82, 83, 84, 85, 86, 87, 88, 89, 90, 91, 92] (by decide +kernel) (by decide +kernel)
set_option maxRecDepth 20000 in
theorem gX8_comesNew_X8_mayBe : GoodIn wsX8_comesNew (wsV RX8 154 RX8 yX8_mayBe wsX8_mayBe) := goodIn_app (goodIn_of _ (by decide +kernel)) ggX8_comesNew_X8_mayBe
set_option maxRecDepth 20000 in
theorem ggX8_comesNew_X8_builds : GoodIn wsX8_comesNew wsX8_builds := goodIn_r _ [43, 20, 44, 45, 46, 6, 47, 26, 48, 25, 8, 49, 50, 51, 52, 53, 54, 55, 56, 57, 2, 58, 59, 60, 61, 62, 63, 64, 65, 66, 67, 68, 69, 70, 71, 72, 73, 74, 75, 76, 77, 78, 79, 80, 81, 82, 83, 84, 85, 86, 87, 88, 89, 90, 91, 92] (by decide +kernel) (by decide +kernel)
set_option maxRecDepth 20000 in
theorem gX8_comesNew_X8_builds : GoodIn wsX8_comesNew (wsV RX8 157 RX8 yX8_builds wsX8_builds) := goodIn_app (goodIn_of _ (by decide +kernel)) ggX8_comesNew_X8_builds
theorem dX8_comesNew_0 : decode cX8_comesNew 0 = .ok (.aload_n 0, 1) := by decide +kernel
theorem dX8_comesNew_1 : decode cX8_comesNew 1 = .ok (.getfield 46, 3) := by decide +kernel
theorem dX8_comesNew_4 : decode cX8_comesNew 4 = .ok (.iload_n 1, 1) := by decide +kernel
theorem dX8_comesNew_5 : decode cX8_comesNew 5 = .ok (.iaload, 1) := by decide +kernel
theorem dX8_comesNew_6 : decode cX8_comesNew 6 = .ok (.istore_n 2, 1) := by decide +kernel
theorem dX8_comesNew_7 : decode cX8_comesNew 7 = .ok (.aload_n 0, 1) := by decide +kernel
theorem dX8_comesNew_8 : decode cX8_comesNew 8 = .ok (.getfield 46, 3) := by decide +kernel
theorem dX8_comesNew_11 : decode cX8_comesNew 11 = .ok (.iload_n 1, 1) := by decide +kernel
theorem dX8_comesNew_12 : decode cX8_comesNew 12 = .ok (.iconst 1, 1) := by decide +kernel
theorem dX8_comesNew_13 : decode cX8_comesNew 13 = .ok (.iadd, 1) := by decide +kernel
theorem dX8_comesNew_14 : decode cX8_comesNew 14 = .ok (.iaload, 1) := by decide +kernel
theorem dX8_comesNew_15 : decode cX8_comesNew 15 = .ok (.istore_n 3, 1) := by decide +kernel
theorem dX8_comesNew_16 : decode cX8_comesNew 16 = .ok (.aload_n 0, 1) := by decide +kernel
theorem dX8_comesNew_17 : decode cX8_comesNew 17 = .ok (.iload_n 2, 1) := by decide +kernel
theorem dX8_comesNew_18 : decode cX8_comesNew 18 = .ok (.invokevirtual 151, 3) := by decide +kernel
theorem dX8_comesNew_21 : decode cX8_comesNew 21 = .ok (.ifCond .eq 42, 3) := by decide +kernel
theorem dX8_comesNew_24 : decode cX8_comesNew 24 = .ok (.aload_n 0, 1) := by decide +kernel
theorem dX8_comesNew_25 : decode cX8_comesNew 25 = .ok (.iload_n 3, 1) := by decide +kernel
theorem dX8_comesNew_26 : decode cX8_comesNew 26 = .ok (.invokevirtual 151, 3) := by decide +kernel
theorem dX8_comesNew_29 : decode cX8_comesNew 29 = .ok (.ifCond .eq 34, 3) := by decide +kernel
theorem dX8_comesNew_32 : decode cX8_comesNew 32 = .ok (.aload_n 0, 1) := by decide +kernel
theorem dX8_comesNew_33 : decode cX8_comesNew 33 = .ok (.getfield 46, 3) := by decide +kernel
theorem dX8_comesNew_36 : decode cX8_comesNew 36 = .ok (.iload_n 1, 1) := by decide +kernel
theorem dX8_comesNew_37 : decode cX8_comesNew 37 = .ok (.iconst 2, 1) := by decide +kernel
theorem dX8_comesNew_38 : decode cX8_comesNew 38 = .ok (.iadd, 1) := by decide +kernel
theorem dX8_comesNew_39 : decode cX8_comesNew 39 = .ok (.iaload, 1) := by decide +kernel
theorem dX8_comesNew_40 : decode cX8_comesNew 40 = .ok (.bipush 6, 2) := by decide +kernel
theorem dX8_comesNew_42 : decode cX8_comesNew 42 = .ok (.if_icmp .ge 21, 3) := by decide +kernel
theorem dX8_comesNew_45 : decode cX8_comesNew 45 = .ok (.aload_n 0, 1) := by decide +kernel
theorem dX8_comesNew_46 : decode cX8_comesNew 46 = .ok (.iload_n 2, 1) := by decide +kernel
theorem dX8_comesNew_47 : decode cX8_comesNew 47 = .ok (.iload_n 3, 1) := by decide +kernel
theorem dX8_comesNew_48 : decode cX8_comesNew 48 = .ok (.invokevirtual 154, 3) := by decide +kernel
theorem dX8_comesNew_51 : decode cX8_comesNew 51 = .ok (.ifCond .eq 12, 3) := by decide +kernel
theorem dX8_comesNew_54 : decode cX8_comesNew 54 = .ok (.aload_n 0, 1) := by decide +kernel
theorem dX8_comesNew_55 : decode cX8_comesNew 55 = .ok (.getfield 70, 3) := by decide +kernel
theorem dX8_comesNew_58 : decode cX8_comesNew 58 = .ok (.bipush 12, 2) := by decide +kernel
theorem dX8_comesNew_60 : decode cX8_comesNew 60 = .ok (.if_icmp .ne 5, 3) := by decide +kernel
theorem dX8_comesNew_63 : decode cX8_comesNew 63 = .ok (.iconst 0, 1) := by decide +kernel
theorem dX8_comesNew_64 : decode cX8_comesNew 64 = .ok (.ireturn, 1) := by decide +kernel
theorem dX8_comesNew_65 : decode cX8_comesNew 65 = .ok (.aload_n 0, 1) := by decide +kernel
theorem dX8_comesNew_66 : decode cX8_comesNew 66 = .ok (.iload_n 2, 1) := by decide +kernel
theorem dX8_comesNew_67 : decode cX8_comesNew 67 = .ok (.iload_n 3, 1) := by decide +kernel
theorem dX8_comesNew_68 : decode cX8_comesNew 68 = .ok (.aload_n 0, 1) := by decide +kernel
theorem dX8_comesNew_69 : decode cX8_comesNew 69 = .ok (.getfield 46, 3) := by decide +kernel
theorem dX8_comesNew_72 : decode cX8_comesNew 72 = .ok (.iload_n 1, 1) := by decide +kernel
theorem dX8_comesNew_73 : decode cX8_comesNew 73 = .ok (.iconst 2, 1) := by decide +kernel
theorem dX8_comesNew_74 : decode cX8_comesNew 74 = .ok (.iadd, 1) := by decide +kernel
theorem dX8_comesNew_75 : decode cX8_comesNew 75 = .ok (.iaload, 1) := by decide +kernel
theorem dX8_comesNew_76 : decode cX8_comesNew 76 = .ok (.aload_n 0, 1) := by decide +kernel
theorem dX8_comesNew_77 : decode cX8_comesNew 77 = .ok (.getfield 46, 3) := by decide +kernel
theorem dX8_comesNew_80 : decode cX8_comesNew 80 = .ok (.iload_n 1, 1) := by decide +kernel
theorem dX8_comesNew_81 : decode cX8_comesNew 81 = .ok (.iconst 3, 1) := by decide +kernel
theorem dX8_comesNew_82 : decode cX8_comesNew 82 = .ok (.iadd, 1) := by decide +kernel
theorem dX8_comesNew_83 : decode cX8_comesNew 83 = .ok (.iaload, 1) := by decide +kernel
theorem dX8_comesNew_84 : decode cX8_comesNew 84 = .ok (.invokevirtual 157, 3) := by decide +kernel
theorem dX8_comesNew_87 : decode cX8_comesNew 87 = .ok (.iconst 1, 1) := by decide +kernel
theorem dX8_comesNew_88 : decode cX8_comesNew 88 = .ok (.ireturn, 1) := by decide +kernel
set_option maxRecDepth 20000 in
theorem ggX8_comesFire_X8_doesStand : GoodIn wsX8_comesFire wsX8_doesStand := goodIn_r _ [5, 6, 7, 8, 9, 4, 10, 11, 12, 13, 14, 31, 32, 33, 34, 35, 36, 37, 38, 39, 40, 41, 42, 43, 44, 45, 46, 47, 48, 49, 50, 51, 52, 53, 54, 55, 56, 57, 58, 59, 60, 61, 62, 63] (by decide +kernel) (by decide +kernel)
set_option maxRecDepth 20000 in
theorem gX8_comesFire_X8_doesStand : GoodIn wsX8_comesFire (wsV RX8 151 RX8 yX8_doesStand wsX8_doesStand) := goodIn_app (goodIn_of _ (by decide +kernel)) ggX8_comesFire_X8_doesStand
set_option maxRecDepth 20000 in
theorem ggX8_comesFire_X8_burns : GoodIn wsX8_comesFire wsX8_burns := goodIn_r _ [18, 6, 11, 19, 20, 21, 4, 22, 23, 24, 25, 26, 27, 28, 29, 30, 31, 32, 33, 34, 35, 36, 37, 38, 39, 40, 41, 42, 43, 44, 45, 46, 47, 48, 49, 50, 51, 52, 53, 54, 55, 56, 57, 58, 59, 60, 61, 62, 63] (by decide +kernel) (by decide +kernel)
set_option maxRecDepth 20000 in
theorem gX8_comesFire_X8_burns : GoodIn wsX8_comesFire (wsV RX8 161 RX8 yX8_burns wsX8_burns) := goodIn_app (goodIn_of _ (by decide +kernel)) ggX8_comesFire_X8_burns
theorem dX8_comesFire_0 : decode cX8_comesFire 0 = .ok (.aload_n 0, 1) := by decide +kernel
theorem dX8_comesFire_1 : decode cX8_comesFire 1 = .ok (.iload_n 1, 1) := by decide +kernel
theorem dX8_comesFire_2 : decode cX8_comesFire 2 = .ok (.invokevirtual 151, 3) := by decide +kernel
theorem dX8_comesFire_5 : decode cX8_comesFire 5 = .ok (.ifCond .ne 5, 3) := by decide +kernel
theorem dX8_comesFire_8 : decode cX8_comesFire 8 = .ok (.iconst 0, 1) := by decide +kernel
theorem dX8_comesFire_9 : decode cX8_comesFire 9 = .ok (.ireturn, 1) := by decide +kernel
theorem dX8_comesFire_10 : decode cX8_comesFire 10 = .ok (.aload_n 0, 1) := by decide +kernel
theorem dX8_comesFire_11 : decode cX8_comesFire 11 = .ok (.iload_n 1, 1) := by decide +kernel
theorem dX8_comesFire_12 : decode cX8_comesFire 12 = .ok (.invokevirtual 161, 3) := by decide +kernel
theorem dX8_comesFire_15 : decode cX8_comesFire 15 = .ok (.iconst 1, 1) := by decide +kernel
theorem dX8_comesFire_16 : decode cX8_comesFire 16 = .ok (.ireturn, 1) := by decide +kernel
theorem dX8_comesLaw_0 : decode cX8_comesLaw 0 = .ok (.iload_n 1, 1) := by decide +kernel
theorem dX8_comesLaw_1 : decode cX8_comesLaw 1 = .ok (.iconst 2, 1) := by decide +kernel
theorem dX8_comesLaw_2 : decode cX8_comesLaw 2 = .ok (.if_icmp .gt 8, 3) := by decide +kernel
theorem dX8_comesLaw_5 : decode cX8_comesLaw 5 = .ok (.iload_n 2, 1) := by decide +kernel
theorem dX8_comesLaw_6 : decode cX8_comesLaw 6 = .ok (.iconst 1, 1) := by decide +kernel
theorem dX8_comesLaw_7 : decode cX8_comesLaw 7 = .ok (.if_icmp .le 5, 3) := by decide +kernel
theorem dX8_comesLaw_10 : decode cX8_comesLaw 10 = .ok (.iconst 0, 1) := by decide +kernel
theorem dX8_comesLaw_11 : decode cX8_comesLaw 11 = .ok (.ireturn, 1) := by decide +kernel
theorem dX8_comesLaw_12 : decode cX8_comesLaw 12 = .ok (.aload_n 0, 1) := by decide +kernel
theorem dX8_comesLaw_13 : decode cX8_comesLaw 13 = .ok (.iload_n 1, 1) := by decide +kernel
theorem dX8_comesLaw_14 : decode cX8_comesLaw 14 = .ok (.putfield 86, 3) := by decide +kernel
theorem dX8_comesLaw_17 : decode cX8_comesLaw 17 = .ok (.aload_n 0, 1) := by decide +kernel
theorem dX8_comesLaw_18 : decode cX8_comesLaw 18 = .ok (.iload_n 2, 1) := by decide +kernel
theorem dX8_comesLaw_19 : decode cX8_comesLaw 19 = .ok (.putfield 111, 3) := by decide +kernel
theorem dX8_comesLaw_22 : decode cX8_comesLaw 22 = .ok (.iconst 1, 1) := by decide +kernel
theorem dX8_comesLaw_23 : decode cX8_comesLaw 23 = .ok (.ireturn, 1) := by decide +kernel
set_option maxRecDepth 20000 in
theorem ggX8_comesTold_X8_comesNew : GoodIn wsX8_comesTold wsX8_comesNew := goodIn_r _ [7, 2, 8, 9, 10, 11, 6, 12, 13, 14, 15, 16, 17, 18, 19, 20, 21, 22, 23, 24, 25, 26, 27, 28, 29, 30, 31, 32, 33, 34, 35, 36, 37, 38, 39, 40, 41, 42, 43, 44, 45, 46, 47, 48, 49, 50, 51, 52, 53, 54, 55, 56, 57, 58, 59, 60, 61, 62, 63, 64, 90, 91, 92, 93, 94, 95, 96, 97, 98, 99, 100, 101, 102, 103, 104, 105, 106, 107, 108, 109, 110, 111, 112, 113, 114, 115, 116, 117, 118, 119, 120, 121, 122] (by decide +kernel) (by decide +kernel)
set_option maxRecDepth 20000 in
theorem gX8_comesTold_X8_comesNew : GoodIn wsX8_comesTold (wsV RX8 164 RX8 yX8_comesNew wsX8_comesNew) := goodIn_app (goodIn_of _ (by decide +kernel)) ggX8_comesTold_X8_comesNew
set_option maxRecDepth 20000 in
theorem ggX8_comesTold_X8_comesFire : GoodIn wsX8_comesTold wsX8_comesFire := goodIn_r _ [68, 9, 10, 11, 6, 12, 13, 14, 15, 16, 17, 8, 18, 19, 20, 69, 70, 71, 72, 73, 74, 75, 76, 77, 30, 63, 64, 78, 79, 80, 81, 90, 91, 92, 93, 94, 95, 96, 97, 98, 99, 100, 101, 102, 103, 104, 105, 106, 107, 108, 109, 110, 111, 112, 113, 114, 115, 116, 117, 118, 119, 120, 121, 122] (by decide +kernel) (by decide +kernel)
set_option maxRecDepth 20000 in
theorem gX8_comesTold_X8_comesFire : GoodIn wsX8_comesTold (wsV RX8 167 RX8 yX8_comesFire wsX8_comesFire) := goodIn_app (goodIn_of _ (by decide +kernel)) ggX8_comesTold_X8_comesFire
set_option maxRecDepth 20000 in
theorem ggX8_comesTold_X8_comesLaw : GoodIn wsX8_comesTold wsX8_comesLaw := goodIn_r _ [85, 40, 77, 90, 91, 92, 93, 94, 95, 96, 97, 98, 99, 100, 101, 102, 103, 104, 105, 106, 107, 108, 109, 110, 111, 112, 113, 114, 115, 116, 117, 118, 119, 120, 121, 122] (by decide +kernel) (by decide +kernel)
set_option maxRecDepth 20000 in
theorem gX8_comesTold_X8_comesLaw : GoodIn wsX8_comesTold (wsV RX8 170 RX8 yX8_comesLaw wsX8_comesLaw) := goodIn_app (goodIn_of _ (by decide +kernel)) ggX8_comesTold_X8_comesLaw
set_option maxRecDepth 20000 in
theorem ggX8_comesTold_X8_beginsAnew : GoodIn wsX8_comesTold wsX8_beginsAnew := goodIn_r _ [89, 8, 59, 60, 61, 6, 62, 25, 30, 58, 63, 64, 13, 31, 53, 90, 91, 92, 93, 94, 95, 96, 97, 98, 99, 100, 101, 102, 103, 104, 105, 106, 107, 108, 109, 110, 111, 112, 113, 114, 115, 116, 117, 118, 119, 120, 121, 122] (by decide +kernel) (by decide +kernel)
set_option maxRecDepth 20000 in
theorem gX8_comesTold_X8_beginsAnew : GoodIn wsX8_comesTold (wsV RX8 67 RX8 yX8_beginsAnew wsX8_beginsAnew) := goodIn_app (goodIn_of _ (by decide +kernel)) ggX8_comesTold_X8_beginsAnew
theorem dX8_comesTold_0 : decode cX8_comesTold 0 = .ok (.iconst 4, 1) := by decide +kernel
theorem dX8_comesTold_1 : decode cX8_comesTold 1 = .ok (.iload_n 1, 1) := by decide +kernel
theorem dX8_comesTold_2 : decode cX8_comesTold 2 = .ok (.imul, 1) := by decide +kernel
theorem dX8_comesTold_3 : decode cX8_comesTold 3 = .ok (.istore_n 2, 1) := by decide +kernel
theorem dX8_comesTold_4 : decode cX8_comesTold 4 = .ok (.aload_n 0, 1) := by decide +kernel
theorem dX8_comesTold_5 : decode cX8_comesTold 5 = .ok (.getfield 40, 3) := by decide +kernel
theorem dX8_comesTold_8 : decode cX8_comesTold 8 = .ok (.iload_n 1, 1) := by decide +kernel
theorem dX8_comesTold_9 : decode cX8_comesTold 9 = .ok (.iaload, 1) := by decide +kernel
theorem dX8_comesTold_10 : decode cX8_comesTold 10 = .ok (.lookupswitch 70 #[(97, 34), (98, 40), (108, 51)], 34) := by decide +kernel
theorem dX8_comesTold_44 : decode cX8_comesTold 44 = .ok (.aload_n 0, 1) := by decide +kernel
theorem dX8_comesTold_45 : decode cX8_comesTold 45 = .ok (.iload_n 2, 1) := by decide +kernel
theorem dX8_comesTold_46 : decode cX8_comesTold 46 = .ok (.invokevirtual 164, 3) := by decide +kernel
theorem dX8_comesTold_49 : decode cX8_comesTold 49 = .ok (.ireturn, 1) := by decide +kernel
theorem dX8_comesTold_50 : decode cX8_comesTold 50 = .ok (.aload_n 0, 1) := by decide +kernel
theorem dX8_comesTold_51 : decode cX8_comesTold 51 = .ok (.aload_n 0, 1) := by decide +kernel
theorem dX8_comesTold_52 : decode cX8_comesTold 52 = .ok (.getfield 46, 3) := by decide +kernel
theorem dX8_comesTold_55 : decode cX8_comesTold 55 = .ok (.iload_n 2, 1) := by decide +kernel
theorem dX8_comesTold_56 : decode cX8_comesTold 56 = .ok (.iaload, 1) := by decide +kernel
theorem dX8_comesTold_57 : decode cX8_comesTold 57 = .ok (.invokevirtual 167, 3) := by decide +kernel
theorem dX8_comesTold_60 : decode cX8_comesTold 60 = .ok (.ireturn, 1) := by decide +kernel
theorem dX8_comesTold_61 : decode cX8_comesTold 61 = .ok (.aload_n 0, 1) := by decide +kernel
theorem dX8_comesTold_62 : decode cX8_comesTold 62 = .ok (.aload_n 0, 1) := by decide +kernel
theorem dX8_comesTold_63 : decode cX8_comesTold 63 = .ok (.getfield 46, 3) := by decide +kernel
theorem dX8_comesTold_66 : decode cX8_comesTold 66 = .ok (.iload_n 2, 1) := by decide +kernel
theorem dX8_comesTold_67 : decode cX8_comesTold 67 = .ok (.iaload, 1) := by decide +kernel
theorem dX8_comesTold_68 : decode cX8_comesTold 68 = .ok (.aload_n 0, 1) := by decide +kernel
theorem dX8_comesTold_69 : decode cX8_comesTold 69 = .ok (.getfield 46, 3) := by decide +kernel
theorem dX8_comesTold_72 : decode cX8_comesTold 72 = .ok (.iload_n 2, 1) := by decide +kernel
theorem dX8_comesTold_73 : decode cX8_comesTold 73 = .ok (.iconst 1, 1) := by decide +kernel
theorem dX8_comesTold_74 : decode cX8_comesTold 74 = .ok (.iadd, 1) := by decide +kernel
theorem dX8_comesTold_75 : decode cX8_comesTold 75 = .ok (.iaload, 1) := by decide +kernel
theorem dX8_comesTold_76 : decode cX8_comesTold 76 = .ok (.invokevirtual 170, 3) := by decide +kernel
theorem dX8_comesTold_79 : decode cX8_comesTold 79 = .ok (.ireturn, 1) := by decide +kernel
theorem dX8_comesTold_80 : decode cX8_comesTold 80 = .ok (.aload_n 0, 1) := by decide +kernel
theorem dX8_comesTold_81 : decode cX8_comesTold 81 = .ok (.invokevirtual 67, 3) := by decide +kernel
theorem dX8_comesTold_84 : decode cX8_comesTold 84 = .ok (.iconst 1, 1) := by decide +kernel
theorem dX8_comesTold_85 : decode cX8_comesTold 85 = .ok (.ireturn, 1) := by decide +kernel
set_option maxRecDepth 20000 in
theorem ggX8_street_X8_statement : GoodIn wsX8_street wsX8_statement := goodIn_r _ [9, 10, 2, 4, 1, 11, 12, 13, 14, 8, 15, 3, 16, 17, 18, 19, 20, 21, 22, 23, 24, 25, 26, 27, 28, 29, 30, 31, 32, 135, 136, 137, 138, 139, 140, 141, 142, 143, 144, 145, 146, 147, 148, 149, 150, 151, 152, 153, 154, 155, 156, 157, 158, 159, 160, 161, 162, 163, 164, 165, 166, 167] (by decide +kernel) (by decide +kernel)
set_option maxRecDepth 20000 in
theorem gX8_street_X8_statement : GoodIn wsX8_street (wsV RX8 173 RX8 yX8_statement wsX8_statement) := goodIn_app (goodIn_of _ (by decide +kernel)) ggX8_street_X8_statement
set_option maxRecDepth 20000 in
theorem ggX8_street_X8_passesAll : GoodIn wsX8_street wsX8_passesAll := goodIn_r _ [36, 37, 38, 39, 40, 41, 42, 43, 44, 45, 46, 47, 48, 49, 50, 51, 52, 8, 53, 54, 55, 56, 57, 58, 135, 136, 137, 138, 139, 140, 141, 142, 143, 144, 145, 146, 147, 148, 149, 150, 151, 152, 153, 154, 155, 156, 157, 158, 159, 160, 161, 162, 163, 164, 165, 166, 167] (by decide +kernel) (by decide +kernel)
set_option maxRecDepth 20000 in
theorem gX8_street_X8_passesAll : GoodIn wsX8_street (wsV RX8 177 RX8 yX8_passesAll wsX8_passesAll) := goodIn_app (goodIn_of _ (by decide +kernel)) ggX8_street_X8_passesAll
set_option maxRecDepth 20000 in
theorem ggX8_street_X8_comesTold : GoodIn wsX8_street wsX8_comesTold := goodIn_r _ [62, 10, 25, 63, 64, 65, 8, 66, 47, 67, 68, 69, 70, 44, 71, 72, 73, 74, 26, 27, 28, 75, 76, 77, 78, 39, 79, 80, 81, 82, 40, 45, 83, 84, 85, 86, 87, 88, 89, 90, 48, 91, 92, 93, 94, 95, 96, 97, 98, 99, 100, 101, 102, 46, 103, 104, 105, 106, 41, 107, 108, 109, 110, 42, 43, 111, 112, 113, 114, 115, 116, 117, 118, 119, 120, 121, 122, 49, 123, 124, 125, 126, 127, 128, 129, 130, 131, 132, 133, 134, 135, 136, 137, 138, 139, 140, 141, 142, 143, 144, 145, 146, 147, 148, 149, 150, 151, 152, 153, 154, 155, 156, 157, 158, 159, 160, 161, 162, 163, 164, 165, 166, 167] (by decide +kernel) (by decide +kernel)
set_option maxRecDepth 20000 in
theorem gX8_street_X8_comesTold : GoodIn wsX8_street (wsV RX8 181 RX8 yX8_comesTold wsX8_comesTold) := goodIn_app (goodIn_of _ (by decide +kernel)) ggX8_street_X8_comesTold
theorem dX8_street_0 : decode cX8_street 0 = .ok (.aload_n 0, 1) := by decide +kernel
theorem dX8_street_1 : decode cX8_street 1 = .ok (.iconst 0, 1) := by decide +kernel
theorem dX8_street_2 : decode cX8_street 2 = .ok (.putfield 130, 3) := by decide +kernel
theorem dX8_street_5 : decode cX8_street 5 = .ok (.aload_n 0, 1) := by decide +kernel
theorem dX8_street_6 : decode cX8_street 6 = .ok (.iconst 0, 1) := by decide +kernel
theorem dX8_street_7 : decode cX8_street 7 = .ok (.putfield 145, 3) := by decide +kernel
theorem dX8_street_10 : decode cX8_street 10 = .ok (.iconst 1, 1) := by decide +kernel
theorem dX8_street_11 : decode cX8_street 11 = .ok (.istore_n 1, 1) := by decide +kernel
theorem dX8_street_12 : decode cX8_street 12 = .ok (.iload_n 1, 1) := by decide +kernel
theorem dX8_street_13 : decode cX8_street 13 = .ok (.ifCond .eq 47, 3) := by decide +kernel
theorem dX8_street_16 : decode cX8_street 16 = .ok (.aload_n 0, 1) := by decide +kernel
theorem dX8_street_17 : decode cX8_street 17 = .ok (.getfield 130, 3) := by decide +kernel
theorem dX8_street_20 : decode cX8_street 20 = .ok (.aload_n 0, 1) := by decide +kernel
theorem dX8_street_21 : decode cX8_street 21 = .ok (.getfield 124, 3) := by decide +kernel
theorem dX8_street_24 : decode cX8_street 24 = .ok (.if_icmp .lt 10, 3) := by decide +kernel
theorem dX8_street_27 : decode cX8_street 27 = .ok (.aload_n 0, 1) := by decide +kernel
theorem dX8_street_28 : decode cX8_street 28 = .ok (.getfield 145, 3) := by decide +kernel
theorem dX8_street_31 : decode cX8_street 31 = .ok (.ifCond .ne 29, 3) := by decide +kernel
theorem dX8_street_34 : decode cX8_street 34 = .ok (.aload_n 0, 1) := by decide +kernel
theorem dX8_street_35 : decode cX8_street 35 = .ok (.invokevirtual 173, 3) := by decide +kernel
theorem dX8_street_38 : decode cX8_street 38 = .ok (.istore_n 1, 1) := by decide +kernel
theorem dX8_street_39 : decode cX8_street 39 = .ok (.aload_n 0, 1) := by decide +kernel
theorem dX8_street_40 : decode cX8_street 40 = .ok (.dup, 1) := by decide +kernel
theorem dX8_street_41 : decode cX8_street 41 = .ok (.getfield 145, 3) := by decide +kernel
theorem dX8_street_44 : decode cX8_street 44 = .ok (.iload_n 1, 1) := by decide +kernel
theorem dX8_street_45 : decode cX8_street 45 = .ok (.ifCond .eq 7, 3) := by decide +kernel
theorem dX8_street_48 : decode cX8_street 48 = .ok (.iconst 1, 1) := by decide +kernel
theorem dX8_street_49 : decode cX8_street 49 = .ok (.goto 4, 3) := by decide +kernel
theorem dX8_street_52 : decode cX8_street 52 = .ok (.iconst 0, 1) := by decide +kernel
theorem dX8_street_53 : decode cX8_street 53 = .ok (.iadd, 1) := by decide +kernel
theorem dX8_street_54 : decode cX8_street 54 = .ok (.putfield 145, 3) := by decide +kernel
theorem dX8_street_57 : decode cX8_street 57 = .ok (.goto (-45), 3) := by decide +kernel
theorem dX8_street_60 : decode cX8_street 60 = .ok (.aload_n 0, 1) := by decide +kernel
theorem dX8_street_61 : decode cX8_street 61 = .ok (.iconst 0, 1) := by decide +kernel
theorem dX8_street_62 : decode cX8_street 62 = .ok (.putfield 124, 3) := by decide +kernel
theorem dX8_street_65 : decode cX8_street 65 = .ok (.iload_n 1, 1) := by decide +kernel
theorem dX8_street_66 : decode cX8_street 66 = .ok (.ifCond .ne 12, 3) := by decide +kernel
theorem dX8_street_69 : decode cX8_street 69 = .ok (.sipush (-1000), 3) := by decide +kernel
theorem dX8_street_72 : decode cX8_street 72 = .ok (.aload_n 0, 1) := by decide +kernel
theorem dX8_street_73 : decode cX8_street 73 = .ok (.getfield 130, 3) := by decide +kernel
theorem dX8_street_76 : decode cX8_street 76 = .ok (.isub, 1) := by decide +kernel
theorem dX8_street_77 : decode cX8_street 77 = .ok (.ireturn, 1) := by decide +kernel
theorem dX8_street_78 : decode cX8_street 78 = .ok (.aload_n 0, 1) := by decide +kernel
theorem dX8_street_79 : decode cX8_street 79 = .ok (.iconst 1, 1) := by decide +kernel
theorem dX8_street_80 : decode cX8_street 80 = .ok (.iconst 1, 1) := by decide +kernel
theorem dX8_street_81 : decode cX8_street 81 = .ok (.invokevirtual 177, 3) := by decide +kernel
theorem dX8_street_84 : decode cX8_street 84 = .ok (.iconst 0, 1) := by decide +kernel
theorem dX8_street_85 : decode cX8_street 85 = .ok (.istore_n 2, 1) := by decide +kernel
theorem dX8_street_86 : decode cX8_street 86 = .ok (.iload_n 2, 1) := by decide +kernel
theorem dX8_street_87 : decode cX8_street 87 = .ok (.aload_n 0, 1) := by decide +kernel
theorem dX8_street_88 : decode cX8_street 88 = .ok (.getfield 145, 3) := by decide +kernel
theorem dX8_street_91 : decode cX8_street 91 = .ok (.if_icmp .ge 37, 3) := by decide +kernel
theorem dX8_street_94 : decode cX8_street 94 = .ok (.aload_n 0, 1) := by decide +kernel
theorem dX8_street_95 : decode cX8_street 95 = .ok (.iload_n 2, 1) := by decide +kernel
theorem dX8_street_96 : decode cX8_street 96 = .ok (.invokevirtual 181, 3) := by decide +kernel
theorem dX8_street_99 : decode cX8_street 99 = .ok (.ifCond .eq 6, 3) := by decide +kernel
theorem dX8_street_102 : decode cX8_street 102 = .ok (.goto 20, 3) := by decide +kernel
theorem dX8_street_105 : decode cX8_street 105 = .ok (.aload_n 0, 1) := by decide +kernel
theorem dX8_street_106 : decode cX8_street 106 = .ok (.iconst 1, 1) := by decide +kernel
theorem dX8_street_107 : decode cX8_street 107 = .ok (.iconst 0, 1) := by decide +kernel
theorem dX8_street_108 : decode cX8_street 108 = .ok (.invokevirtual 177, 3) := by decide +kernel
theorem dX8_street_111 : decode cX8_street 111 = .ok (.sipush (-2000), 3) := by decide +kernel
theorem dX8_street_114 : decode cX8_street 114 = .ok (.aload_n 0, 1) := by decide +kernel
theorem dX8_street_115 : decode cX8_street 115 = .ok (.getfield 43, 3) := by decide +kernel
theorem dX8_street_118 : decode cX8_street 118 = .ok (.iload_n 2, 1) := by decide +kernel
theorem dX8_street_119 : decode cX8_street 119 = .ok (.iaload, 1) := by decide +kernel
theorem dX8_street_120 : decode cX8_street 120 = .ok (.isub, 1) := by decide +kernel
theorem dX8_street_121 : decode cX8_street 121 = .ok (.ireturn, 1) := by decide +kernel
theorem dX8_street_122 : decode cX8_street 122 = .ok (.iinc 2 1, 3) := by decide +kernel
theorem dX8_street_125 : decode cX8_street 125 = .ok (.goto (-39), 3) := by decide +kernel
theorem dX8_street_128 : decode cX8_street 128 = .ok (.aload_n 0, 1) := by decide +kernel
theorem dX8_street_129 : decode cX8_street 129 = .ok (.getfield 145, 3) := by decide +kernel
theorem dX8_street_132 : decode cX8_street 132 = .ok (.ireturn, 1) := by decide +kernel
theorem dX8_passes_0 : decode cX8_passes 0 = .ok (.iconst 0, 1) := by decide +kernel
theorem dX8_passes_1 : decode cX8_passes 1 = .ok (.istore_n 2, 1) := by decide +kernel
theorem dX8_passes_2 : decode cX8_passes 2 = .ok (.iload_n 2, 1) := by decide +kernel
theorem dX8_passes_3 : decode cX8_passes 3 = .ok (.aload_n 1, 1) := by decide +kernel
theorem dX8_passes_4 : decode cX8_passes 4 = .ok (.arraylength, 1) := by decide +kernel
theorem dX8_passes_5 : decode cX8_passes 5 = .ok (.if_icmp .ge 53, 3) := by decide +kernel
theorem dX8_passes_8 : decode cX8_passes 8 = .ok (.aload_n 0, 1) := by decide +kernel
theorem dX8_passes_9 : decode cX8_passes 9 = .ok (.getfield 184, 3) := by decide +kernel
theorem dX8_passes_12 : decode cX8_passes 12 = .ok (.ifCond .eq 18, 3) := by decide +kernel
theorem dX8_passes_15 : decode cX8_passes 15 = .ok (.aload_n 0, 1) := by decide +kernel
theorem dX8_passes_16 : decode cX8_passes 16 = .ok (.getfield 49, 3) := by decide +kernel
theorem dX8_passes_19 : decode cX8_passes 19 = .ok (.aload_n 0, 1) := by decide +kernel
theorem dX8_passes_20 : decode cX8_passes 20 = .ok (.getfield 188, 3) := by decide +kernel
theorem dX8_passes_23 : decode cX8_passes 23 = .ok (.aload_n 1, 1) := by decide +kernel
theorem dX8_passes_24 : decode cX8_passes 24 = .ok (.iload_n 2, 1) := by decide +kernel
theorem dX8_passes_25 : decode cX8_passes 25 = .ok (.iaload, 1) := by decide +kernel
theorem dX8_passes_26 : decode cX8_passes 26 = .ok (.iastore, 1) := by decide +kernel
theorem dX8_passes_27 : decode cX8_passes 27 = .ok (.goto 15, 3) := by decide +kernel
theorem dX8_passes_30 : decode cX8_passes 30 = .ok (.aload_n 1, 1) := by decide +kernel
theorem dX8_passes_31 : decode cX8_passes 31 = .ok (.iload_n 2, 1) := by decide +kernel
theorem dX8_passes_32 : decode cX8_passes 32 = .ok (.aload_n 0, 1) := by decide +kernel
theorem dX8_passes_33 : decode cX8_passes 33 = .ok (.getfield 49, 3) := by decide +kernel
theorem dX8_passes_36 : decode cX8_passes 36 = .ok (.aload_n 0, 1) := by decide +kernel
theorem dX8_passes_37 : decode cX8_passes 37 = .ok (.getfield 188, 3) := by decide +kernel
theorem dX8_passes_40 : decode cX8_passes 40 = .ok (.iaload, 1) := by decide +kernel
theorem dX8_passes_41 : decode cX8_passes 41 = .ok (.iastore, 1) := by decide +kernel
theorem dX8_passes_42 : decode cX8_passes 42 = .ok (.aload_n 0, 1) := by decide +kernel
theorem dX8_passes_43 : decode cX8_passes 43 = .ok (.dup, 1) := by decide +kernel
theorem dX8_passes_44 : decode cX8_passes 44 = .ok (.getfield 188, 3) := by decide +kernel
theorem dX8_passes_47 : decode cX8_passes 47 = .ok (.iconst 1, 1) := by decide +kernel
theorem dX8_passes_48 : decode cX8_passes 48 = .ok (.iadd, 1) := by decide +kernel
theorem dX8_passes_49 : decode cX8_passes 49 = .ok (.putfield 188, 3) := by decide +kernel
theorem dX8_passes_52 : decode cX8_passes 52 = .ok (.iinc 2 1, 3) := by decide +kernel
theorem dX8_passes_55 : decode cX8_passes 55 = .ok (.goto (-53), 3) := by decide +kernel
theorem dX8_passes_58 : decode cX8_passes 58 = .ok (.return_, 1) := by decide +kernel
theorem dX8_passOne_0 : decode cX8_passOne 0 = .ok (.aload_n 0, 1) := by decide +kernel
theorem dX8_passOne_1 : decode cX8_passOne 1 = .ok (.getfield 184, 3) := by decide +kernel
theorem dX8_passOne_4 : decode cX8_passOne 4 = .ok (.ifCond .eq 7, 3) := by decide +kernel
theorem dX8_passOne_7 : decode cX8_passOne 7 = .ok (.iload_n 1, 1) := by decide +kernel
theorem dX8_passOne_8 : decode cX8_passOne 8 = .ok (.goto 12, 3) := by decide +kernel
theorem dX8_passOne_11 : decode cX8_passOne 11 = .ok (.aload_n 0, 1) := by decide +kernel
theorem dX8_passOne_12 : decode cX8_passOne 12 = .ok (.getfield 49, 3) := by decide +kernel
theorem dX8_passOne_15 : decode cX8_passOne 15 = .ok (.aload_n 0, 1) := by decide +kernel
theorem dX8_passOne_16 : decode cX8_passOne 16 = .ok (.getfield 188, 3) := by decide +kernel
theorem dX8_passOne_19 : decode cX8_passOne 19 = .ok (.iaload, 1) := by decide +kernel
theorem dX8_passOne_20 : decode cX8_passOne 20 = .ok (.istore_n 2, 1) := by decide +kernel
theorem dX8_passOne_21 : decode cX8_passOne 21 = .ok (.aload_n 0, 1) := by decide +kernel
theorem dX8_passOne_22 : decode cX8_passOne 22 = .ok (.getfield 184, 3) := by decide +kernel
theorem dX8_passOne_25 : decode cX8_passOne 25 = .ok (.ifCond .eq 13, 3) := by decide +kernel
theorem dX8_passOne_28 : decode cX8_passOne 28 = .ok (.aload_n 0, 1) := by decide +kernel
theorem dX8_passOne_29 : decode cX8_passOne 29 = .ok (.getfield 49, 3) := by decide +kernel
theorem dX8_passOne_32 : decode cX8_passOne 32 = .ok (.aload_n 0, 1) := by decide +kernel
theorem dX8_passOne_33 : decode cX8_passOne 33 = .ok (.getfield 188, 3) := by decide +kernel
theorem dX8_passOne_36 : decode cX8_passOne 36 = .ok (.iload_n 1, 1) := by decide +kernel
theorem dX8_passOne_37 : decode cX8_passOne 37 = .ok (.iastore, 1) := by decide +kernel
theorem dX8_passOne_38 : decode cX8_passOne 38 = .ok (.aload_n 0, 1) := by decide +kernel
theorem dX8_passOne_39 : decode cX8_passOne 39 = .ok (.dup, 1) := by decide +kernel
theorem dX8_passOne_40 : decode cX8_passOne 40 = .ok (.getfield 188, 3) := by decide +kernel
theorem dX8_passOne_43 : decode cX8_passOne 43 = .ok (.iconst 1, 1) := by decide +kernel
theorem dX8_passOne_44 : decode cX8_passOne 44 = .ok (.iadd, 1) := by decide +kernel
theorem dX8_passOne_45 : decode cX8_passOne 45 = .ok (.putfield 188, 3) := by decide +kernel
theorem dX8_passOne_48 : decode cX8_passOne 48 = .ok (.iload_n 2, 1) := by decide +kernel
theorem dX8_passOne_49 : decode cX8_passOne 49 = .ok (.ireturn, 1) := by decide +kernel
set_option maxRecDepth 20000 in
theorem ggX8_passesAll_X8_passes : GoodIn wsX8_passesAll wsX8_passes := goodIn_r _ [18, 2, 19, 1, 24, 25, 26, 27, 28, 29, 30, 31, 32, 33, 34, 35, 36, 37, 38, 39, 40, 41, 42, 43, 44, 45, 46, 47, 48, 49, 50, 51, 52, 53, 54, 55, 56] (by decide +kernel) (by decide +kernel)
set_option maxRecDepth 20000 in
theorem gX8_passesAll_X8_passes : GoodIn wsX8_passesAll (wsV RX8 191 RX8 yX8_passes wsX8_passes) := goodIn_app (goodIn_of _ (by decide +kernel)) ggX8_passesAll_X8_passes
set_option maxRecDepth 20000 in
theorem ggX8_passesAll_X8_passOne : GoodIn wsX8_passesAll wsX8_passOne := goodIn_r _ [23, 2, 19, 1, 24, 25, 26, 27, 28, 29, 30, 31, 32, 33, 34, 35, 36, 37, 38, 39, 40, 41, 42, 43, 44, 45, 46, 47, 48, 49, 50, 51, 52, 53, 54, 55, 56] (by decide +kernel) (by decide +kernel)
set_option maxRecDepth 20000 in
theorem gX8_passesAll_X8_passOne : GoodIn wsX8_passesAll (wsV RX8 195 RX8 yX8_passOne wsX8_passOne) := goodIn_app (goodIn_of _ (by decide +kernel)) ggX8_passesAll_X8_passOne
theorem dX8_passesAll_0 : decode cX8_passesAll 0 = .ok (.aload_n 0, 1) := by decide +kernel
theorem dX8_passesAll_1 : decode cX8_passesAll 1 = .ok (.bipush 100, 2) := by decide +kernel
theorem dX8_passesAll_3 : decode cX8_passesAll 3 = .ok (.iload_n 1, 1) := by decide +kernel
theorem dX8_passesAll_4 : decode cX8_passesAll 4 = .ok (.imul, 1) := by decide +kernel
theorem dX8_passesAll_5 : decode cX8_passesAll 5 = .ok (.putfield 188, 3) := by decide +kernel
theorem dX8_passesAll_8 : decode cX8_passesAll 8 = .ok (.aload_n 0, 1) := by decide +kernel
theorem dX8_passesAll_9 : decode cX8_passesAll 9 = .ok (.iload_n 2, 1) := by decide +kernel
theorem dX8_passesAll_10 : decode cX8_passesAll 10 = .ok (.putfield 184, 3) := by decide +kernel
theorem dX8_passesAll_13 : decode cX8_passesAll 13 = .ok (.aload_n 0, 1) := by decide +kernel
theorem dX8_passesAll_14 : decode cX8_passesAll 14 = .ok (.aload_n 0, 1) := by decide +kernel
theorem dX8_passesAll_15 : decode cX8_passesAll 15 = .ok (.getfield 13, 3) := by decide +kernel
theorem dX8_passesAll_18 : decode cX8_passesAll 18 = .ok (.invokevirtual 191, 3) := by decide +kernel
theorem dX8_passesAll_21 : decode cX8_passesAll 21 = .ok (.aload_n 0, 1) := by decide +kernel
theorem dX8_passesAll_22 : decode cX8_passesAll 22 = .ok (.aload_n 0, 1) := by decide +kernel
theorem dX8_passesAll_23 : decode cX8_passesAll 23 = .ok (.getfield 16, 3) := by decide +kernel
theorem dX8_passesAll_26 : decode cX8_passesAll 26 = .ok (.invokevirtual 191, 3) := by decide +kernel
theorem dX8_passesAll_29 : decode cX8_passesAll 29 = .ok (.aload_n 0, 1) := by decide +kernel
theorem dX8_passesAll_30 : decode cX8_passesAll 30 = .ok (.aload_n 0, 1) := by decide +kernel
theorem dX8_passesAll_31 : decode cX8_passesAll 31 = .ok (.getfield 19, 3) := by decide +kernel
theorem dX8_passesAll_34 : decode cX8_passesAll 34 = .ok (.invokevirtual 191, 3) := by decide +kernel
theorem dX8_passesAll_37 : decode cX8_passesAll 37 = .ok (.aload_n 0, 1) := by decide +kernel
theorem dX8_passesAll_38 : decode cX8_passesAll 38 = .ok (.aload_n 0, 1) := by decide +kernel
theorem dX8_passesAll_39 : decode cX8_passesAll 39 = .ok (.getfield 22, 3) := by decide +kernel
theorem dX8_passesAll_42 : decode cX8_passesAll 42 = .ok (.invokevirtual 191, 3) := by decide +kernel
theorem dX8_passesAll_45 : decode cX8_passesAll 45 = .ok (.aload_n 0, 1) := by decide +kernel
theorem dX8_passesAll_46 : decode cX8_passesAll 46 = .ok (.aload_n 0, 1) := by decide +kernel
theorem dX8_passesAll_47 : decode cX8_passesAll 47 = .ok (.getfield 25, 3) := by decide +kernel
theorem dX8_passesAll_50 : decode cX8_passesAll 50 = .ok (.invokevirtual 191, 3) := by decide +kernel
theorem dX8_passesAll_53 : decode cX8_passesAll 53 = .ok (.aload_n 0, 1) := by decide +kernel
theorem dX8_passesAll_54 : decode cX8_passesAll 54 = .ok (.aload_n 0, 1) := by decide +kernel
theorem dX8_passesAll_55 : decode cX8_passesAll 55 = .ok (.getfield 28, 3) := by decide +kernel
theorem dX8_passesAll_58 : decode cX8_passesAll 58 = .ok (.invokevirtual 191, 3) := by decide +kernel
theorem dX8_passesAll_61 : decode cX8_passesAll 61 = .ok (.aload_n 0, 1) := by decide +kernel
theorem dX8_passesAll_62 : decode cX8_passesAll 62 = .ok (.aload_n 0, 1) := by decide +kernel
theorem dX8_passesAll_63 : decode cX8_passesAll 63 = .ok (.getfield 31, 3) := by decide +kernel
theorem dX8_passesAll_66 : decode cX8_passesAll 66 = .ok (.invokevirtual 191, 3) := by decide +kernel
theorem dX8_passesAll_69 : decode cX8_passesAll 69 = .ok (.aload_n 0, 1) := by decide +kernel
theorem dX8_passesAll_70 : decode cX8_passesAll 70 = .ok (.aload_n 0, 1) := by decide +kernel
theorem dX8_passesAll_71 : decode cX8_passesAll 71 = .ok (.getfield 34, 3) := by decide +kernel
theorem dX8_passesAll_74 : decode cX8_passesAll 74 = .ok (.invokevirtual 191, 3) := by decide +kernel
theorem dX8_passesAll_77 : decode cX8_passesAll 77 = .ok (.aload_n 0, 1) := by decide +kernel
theorem dX8_passesAll_78 : decode cX8_passesAll 78 = .ok (.aload_n 0, 1) := by decide +kernel
theorem dX8_passesAll_79 : decode cX8_passesAll 79 = .ok (.aload_n 0, 1) := by decide +kernel
theorem dX8_passesAll_80 : decode cX8_passesAll 80 = .ok (.getfield 70, 3) := by decide +kernel
theorem dX8_passesAll_83 : decode cX8_passesAll 83 = .ok (.invokevirtual 195, 3) := by decide +kernel
theorem dX8_passesAll_86 : decode cX8_passesAll 86 = .ok (.putfield 70, 3) := by decide +kernel
theorem dX8_passesAll_89 : decode cX8_passesAll 89 = .ok (.aload_n 0, 1) := by decide +kernel
theorem dX8_passesAll_90 : decode cX8_passesAll 90 = .ok (.aload_n 0, 1) := by decide +kernel
theorem dX8_passesAll_91 : decode cX8_passesAll 91 = .ok (.aload_n 0, 1) := by decide +kernel
theorem dX8_passesAll_92 : decode cX8_passesAll 92 = .ok (.getfield 86, 3) := by decide +kernel
theorem dX8_passesAll_95 : decode cX8_passesAll 95 = .ok (.invokevirtual 195, 3) := by decide +kernel
theorem dX8_passesAll_98 : decode cX8_passesAll 98 = .ok (.putfield 86, 3) := by decide +kernel
theorem dX8_passesAll_101 : decode cX8_passesAll 101 = .ok (.aload_n 0, 1) := by decide +kernel
theorem dX8_passesAll_102 : decode cX8_passesAll 102 = .ok (.aload_n 0, 1) := by decide +kernel
theorem dX8_passesAll_103 : decode cX8_passesAll 103 = .ok (.aload_n 0, 1) := by decide +kernel
theorem dX8_passesAll_104 : decode cX8_passesAll 104 = .ok (.getfield 111, 3) := by decide +kernel
theorem dX8_passesAll_107 : decode cX8_passesAll 107 = .ok (.invokevirtual 195, 3) := by decide +kernel
theorem dX8_passesAll_110 : decode cX8_passesAll 110 = .ok (.putfield 111, 3) := by decide +kernel
theorem dX8_passesAll_113 : decode cX8_passesAll 113 = .ok (.return_, 1) := by decide +kernel
set_option maxRecDepth 20000 in
theorem ggX8_image_X8_passesAll : GoodIn wsX8_image wsX8_passesAll := goodIn_r _ [7, 8, 9, 10, 11, 12, 13, 14, 15, 16, 17, 2, 18, 19, 20, 21, 22, 6, 23, 24, 25, 26, 27, 28, 29, 30, 31, 32, 33, 34, 35, 36, 37, 38, 39, 40, 41, 42, 43, 44, 45, 46, 47, 48, 49, 50, 51, 52, 53, 54, 55, 56, 57, 58, 59, 60, 61] (by decide +kernel) (by decide +kernel)
set_option maxRecDepth 20000 in
theorem gX8_image_X8_passesAll : GoodIn wsX8_image (wsV RX8 177 RX8 yX8_passesAll wsX8_passesAll) := goodIn_app (goodIn_of _ (by decide +kernel)) ggX8_image_X8_passesAll
theorem dX8_image_0 : decode cX8_image 0 = .ok (.aload_n 0, 1) := by decide +kernel
theorem dX8_image_1 : decode cX8_image 1 = .ok (.iconst 1, 1) := by decide +kernel
theorem dX8_image_2 : decode cX8_image 2 = .ok (.putfield 198, 3) := by decide +kernel
theorem dX8_image_5 : decode cX8_image 5 = .ok (.aload_n 0, 1) := by decide +kernel
theorem dX8_image_6 : decode cX8_image 6 = .ok (.iconst 0, 1) := by decide +kernel
theorem dX8_image_7 : decode cX8_image 7 = .ok (.iconst 1, 1) := by decide +kernel
theorem dX8_image_8 : decode cX8_image 8 = .ok (.invokevirtual 177, 3) := by decide +kernel
theorem dX8_image_11 : decode cX8_image 11 = .ok (.aload_n 0, 1) := by decide +kernel
theorem dX8_image_12 : decode cX8_image 12 = .ok (.getfield 70, 3) := by decide +kernel
theorem dX8_image_15 : decode cX8_image 15 = .ok (.ireturn, 1) := by decide +kernel
set_option maxRecDepth 20000 in
theorem ggX8_restore_X8_no : GoodIn wsX8_restore wsX8_no := goodIn_r _ [7, 8, 34, 35, 36, 37, 38, 39, 40, 41, 42, 43, 44, 45, 46, 47, 48, 49, 50, 51, 52, 53, 54, 55, 56, 57, 58, 59, 60, 61, 62, 63, 64, 65, 66] (by decide +kernel) (by decide +kernel)
set_option maxRecDepth 20000 in
theorem gX8_restore_X8_no : GoodIn wsX8_restore (wsV RX8 127 RX8 yX8_no wsX8_no) := goodIn_app (goodIn_of _ (by decide +kernel)) ggX8_restore_X8_no
set_option maxRecDepth 20000 in
theorem ggX8_restore_X8_passesAll : GoodIn wsX8_restore wsX8_passesAll := goodIn_r _ [12, 13, 14, 15, 16, 17, 18, 19, 20, 21, 22, 2, 23, 24, 25, 26, 27, 6, 28, 29, 30, 31, 32, 33, 34, 35, 36, 37, 38, 39, 40, 41, 42, 43, 44, 45, 46, 47, 48, 49, 50, 51, 52, 53, 54, 55, 56, 57, 58, 59, 60, 61, 62, 63, 64, 65, 66] (by decide +kernel) (by decide +kernel)
set_option maxRecDepth 20000 in
theorem gX8_restore_X8_passesAll : GoodIn wsX8_restore (wsV RX8 177 RX8 yX8_passesAll wsX8_passesAll) := goodIn_app (goodIn_of _ (by decide +kernel)) ggX8_restore_X8_passesAll
theorem dX8_restore_0 : decode cX8_restore 0 = .ok (.aload_n 0, 1) := by decide +kernel
theorem dX8_restore_1 : decode cX8_restore 1 = .ok (.getfield 198, 3) := by decide +kernel
theorem dX8_restore_4 : decode cX8_restore 4 = .ok (.ifCond .ne 10, 3) := by decide +kernel
theorem dX8_restore_7 : decode cX8_restore 7 = .ok (.aload_n 0, 1) := by decide +kernel
theorem dX8_restore_8 : decode cX8_restore 8 = .ok (.bipush (-3), 2) := by decide +kernel
theorem dX8_restore_10 : decode cX8_restore 10 = .ok (.invokevirtual 127, 3) := by decide +kernel
theorem dX8_restore_13 : decode cX8_restore 13 = .ok (.ireturn, 1) := by decide +kernel
theorem dX8_restore_14 : decode cX8_restore 14 = .ok (.aload_n 0, 1) := by decide +kernel
theorem dX8_restore_15 : decode cX8_restore 15 = .ok (.iconst 0, 1) := by decide +kernel
theorem dX8_restore_16 : decode cX8_restore 16 = .ok (.iconst 0, 1) := by decide +kernel
theorem dX8_restore_17 : decode cX8_restore 17 = .ok (.invokevirtual 177, 3) := by decide +kernel
theorem dX8_restore_20 : decode cX8_restore 20 = .ok (.aload_n 0, 1) := by decide +kernel
theorem dX8_restore_21 : decode cX8_restore 21 = .ok (.getfield 70, 3) := by decide +kernel
theorem dX8_restore_24 : decode cX8_restore 24 = .ok (.ireturn, 1) := by decide +kernel
set_option maxRecDepth 20000 in
theorem ggX8_house_X8_isHouse : GoodIn wsX8_house wsX8_isHouse := goodIn_r _ [13, 14, 15, 16, 12, 17, 23, 24, 25, 26, 27, 28, 29, 30, 31, 32, 33, 34, 35, 36, 37, 38, 39, 40, 41, 42, 43, 44, 45, 46, 47, 48, 49, 50, 51, 52, 53, 54, 55] (by decide +kernel) (by decide +kernel)
set_option maxRecDepth 20000 in
theorem gX8_house_X8_isHouse : GoodIn wsX8_house (wsV RX8 82 RX8 yX8_isHouse wsX8_isHouse) := goodIn_app (goodIn_of _ (by decide +kernel)) ggX8_house_X8_isHouse
set_option maxRecDepth 20000 in
theorem ggX8_house_X8_no : GoodIn wsX8_house wsX8_no := goodIn_r _ [21, 22, 23, 24, 25, 26, 27, 28, 29, 30, 31, 32, 33, 34, 35, 36, 37, 38, 39, 40, 41, 42, 43, 44, 45, 46, 47, 48, 49, 50, 51, 52, 53, 54, 55] (by decide +kernel) (by decide +kernel)
set_option maxRecDepth 20000 in
theorem gX8_house_X8_no : GoodIn wsX8_house (wsV RX8 127 RX8 yX8_no wsX8_no) := goodIn_app (goodIn_of _ (by decide +kernel)) ggX8_house_X8_no
theorem dX8_house_0 : decode cX8_house 0 = .ok (.aload_n 0, 1) := by decide +kernel
theorem dX8_house_1 : decode cX8_house 1 = .ok (.iload_n 1, 1) := by decide +kernel
theorem dX8_house_2 : decode cX8_house 2 = .ok (.invokevirtual 82, 3) := by decide +kernel
theorem dX8_house_5 : decode cX8_house 5 = .ok (.ifCond .ne 9, 3) := by decide +kernel
theorem dX8_house_8 : decode cX8_house 8 = .ok (.aload_n 0, 1) := by decide +kernel
theorem dX8_house_9 : decode cX8_house 9 = .ok (.iconst (-1), 1) := by decide +kernel
theorem dX8_house_10 : decode cX8_house 10 = .ok (.invokevirtual 127, 3) := by decide +kernel
theorem dX8_house_13 : decode cX8_house 13 = .ok (.ireturn, 1) := by decide +kernel
theorem dX8_house_14 : decode cX8_house 14 = .ok (.iload_n 2, 1) := by decide +kernel
theorem dX8_house_15 : decode cX8_house 15 = .ok (.tableswitch 101 0 7 #[45, 52, 59, 66, 73, 80, 87, 94], 45) := by decide +kernel
theorem dX8_house_60 : decode cX8_house 60 = .ok (.aload_n 0, 1) := by decide +kernel
theorem dX8_house_61 : decode cX8_house 61 = .ok (.getfield 16, 3) := by decide +kernel
theorem dX8_house_64 : decode cX8_house 64 = .ok (.iload_n 1, 1) := by decide +kernel
theorem dX8_house_65 : decode cX8_house 65 = .ok (.iaload, 1) := by decide +kernel
theorem dX8_house_66 : decode cX8_house 66 = .ok (.ireturn, 1) := by decide +kernel
theorem dX8_house_67 : decode cX8_house 67 = .ok (.aload_n 0, 1) := by decide +kernel
theorem dX8_house_68 : decode cX8_house 68 = .ok (.getfield 19, 3) := by decide +kernel
theorem dX8_house_71 : decode cX8_house 71 = .ok (.iload_n 1, 1) := by decide +kernel
theorem dX8_house_72 : decode cX8_house 72 = .ok (.iaload, 1) := by decide +kernel
theorem dX8_house_73 : decode cX8_house 73 = .ok (.ireturn, 1) := by decide +kernel
theorem dX8_house_74 : decode cX8_house 74 = .ok (.aload_n 0, 1) := by decide +kernel
theorem dX8_house_75 : decode cX8_house 75 = .ok (.getfield 13, 3) := by decide +kernel
theorem dX8_house_78 : decode cX8_house 78 = .ok (.iload_n 1, 1) := by decide +kernel
theorem dX8_house_79 : decode cX8_house 79 = .ok (.iaload, 1) := by decide +kernel
theorem dX8_house_80 : decode cX8_house 80 = .ok (.ireturn, 1) := by decide +kernel
theorem dX8_house_81 : decode cX8_house 81 = .ok (.aload_n 0, 1) := by decide +kernel
theorem dX8_house_82 : decode cX8_house 82 = .ok (.getfield 22, 3) := by decide +kernel
theorem dX8_house_85 : decode cX8_house 85 = .ok (.iload_n 1, 1) := by decide +kernel
theorem dX8_house_86 : decode cX8_house 86 = .ok (.iaload, 1) := by decide +kernel
theorem dX8_house_87 : decode cX8_house 87 = .ok (.ireturn, 1) := by decide +kernel
theorem dX8_house_88 : decode cX8_house 88 = .ok (.aload_n 0, 1) := by decide +kernel
theorem dX8_house_89 : decode cX8_house 89 = .ok (.getfield 25, 3) := by decide +kernel
theorem dX8_house_92 : decode cX8_house 92 = .ok (.iload_n 1, 1) := by decide +kernel
theorem dX8_house_93 : decode cX8_house 93 = .ok (.iaload, 1) := by decide +kernel
theorem dX8_house_94 : decode cX8_house 94 = .ok (.ireturn, 1) := by decide +kernel
theorem dX8_house_95 : decode cX8_house 95 = .ok (.aload_n 0, 1) := by decide +kernel
theorem dX8_house_96 : decode cX8_house 96 = .ok (.getfield 28, 3) := by decide +kernel
theorem dX8_house_99 : decode cX8_house 99 = .ok (.iload_n 1, 1) := by decide +kernel
theorem dX8_house_100 : decode cX8_house 100 = .ok (.iaload, 1) := by decide +kernel
theorem dX8_house_101 : decode cX8_house 101 = .ok (.ireturn, 1) := by decide +kernel
theorem dX8_house_102 : decode cX8_house 102 = .ok (.aload_n 0, 1) := by decide +kernel
theorem dX8_house_103 : decode cX8_house 103 = .ok (.getfield 31, 3) := by decide +kernel
theorem dX8_house_106 : decode cX8_house 106 = .ok (.iload_n 1, 1) := by decide +kernel
theorem dX8_house_107 : decode cX8_house 107 = .ok (.iaload, 1) := by decide +kernel
theorem dX8_house_108 : decode cX8_house 108 = .ok (.ireturn, 1) := by decide +kernel
theorem dX8_house_109 : decode cX8_house 109 = .ok (.aload_n 0, 1) := by decide +kernel
theorem dX8_house_110 : decode cX8_house 110 = .ok (.getfield 34, 3) := by decide +kernel
theorem dX8_house_113 : decode cX8_house 113 = .ok (.iload_n 1, 1) := by decide +kernel
theorem dX8_house_114 : decode cX8_house 114 = .ok (.iaload, 1) := by decide +kernel
theorem dX8_house_115 : decode cX8_house 115 = .ok (.ireturn, 1) := by decide +kernel
theorem dX8_house_116 : decode cX8_house 116 = .ok (.aload_n 0, 1) := by decide +kernel
theorem dX8_house_117 : decode cX8_house 117 = .ok (.bipush (-2), 2) := by decide +kernel
theorem dX8_house_119 : decode cX8_house 119 = .ok (.invokevirtual 127, 3) := by decide +kernel
theorem dX8_house_122 : decode cX8_house 122 = .ok (.ireturn, 1) := by decide +kernel
set_option maxRecDepth 20000 in
theorem ggX8_law_X8_isIn : GoodIn wsX8_law wsX8_isIn := goodIn_r _ [6] (by decide +kernel) (by decide +kernel)
set_option maxRecDepth 20000 in
theorem gX8_law_X8_isIn : GoodIn wsX8_law (va_wsS RX8 78 yX8_isIn wsX8_isIn) := goodIn_app (goodIn_of _ (by decide +kernel)) ggX8_law_X8_isIn
set_option maxRecDepth 20000 in
theorem ggX8_law_X8_no : GoodIn wsX8_law wsX8_no := goodIn_r _ [10, 11, 12, 13, 14, 15, 16, 17, 18, 19, 20, 21, 22, 23, 24, 25, 26, 27, 28, 29, 30, 31, 32, 33, 34, 35, 36, 37, 38, 39, 40, 41, 42, 43, 44] (by decide +kernel) (by decide +kernel)
set_option maxRecDepth 20000 in
theorem gX8_law_X8_no : GoodIn wsX8_law (wsV RX8 127 RX8 yX8_no wsX8_no) := goodIn_app (goodIn_of _ (by decide +kernel)) ggX8_law_X8_no
theorem dX8_law_0 : decode cX8_law 0 = .ok (.iload_n 1, 1) := by decide +kernel
theorem dX8_law_1 : decode cX8_law 1 = .ok (.iconst 0, 1) := by decide +kernel
theorem dX8_law_2 : decode cX8_law 2 = .ok (.iconst 1, 1) := by decide +kernel
theorem dX8_law_3 : decode cX8_law 3 = .ok (.invokestatic 78, 3) := by decide +kernel
theorem dX8_law_6 : decode cX8_law 6 = .ok (.ifCond .eq 20, 3) := by decide +kernel
theorem dX8_law_9 : decode cX8_law 9 = .ok (.iload_n 2, 1) := by decide +kernel
theorem dX8_law_10 : decode cX8_law 10 = .ok (.iconst 0, 1) := by decide +kernel
theorem dX8_law_11 : decode cX8_law 11 = .ok (.iload_n 1, 1) := by decide +kernel
theorem dX8_law_12 : decode cX8_law 12 = .ok (.ifCond .ne 7, 3) := by decide +kernel
theorem dX8_law_15 : decode cX8_law 15 = .ok (.iconst 2, 1) := by decide +kernel
theorem dX8_law_16 : decode cX8_law 16 = .ok (.goto 4, 3) := by decide +kernel
theorem dX8_law_19 : decode cX8_law 19 = .ok (.iconst 1, 1) := by decide +kernel
theorem dX8_law_20 : decode cX8_law 20 = .ok (.invokestatic 78, 3) := by decide +kernel
theorem dX8_law_23 : decode cX8_law 23 = .ok (.ifCond .ne 10, 3) := by decide +kernel
theorem dX8_law_26 : decode cX8_law 26 = .ok (.aload_n 0, 1) := by decide +kernel
theorem dX8_law_27 : decode cX8_law 27 = .ok (.bipush (-2), 2) := by decide +kernel
theorem dX8_law_29 : decode cX8_law 29 = .ok (.invokevirtual 127, 3) := by decide +kernel
theorem dX8_law_32 : decode cX8_law 32 = .ok (.ireturn, 1) := by decide +kernel
theorem dX8_law_33 : decode cX8_law 33 = .ok (.iload_n 1, 1) := by decide +kernel
theorem dX8_law_34 : decode cX8_law 34 = .ok (.ifCond .ne 10, 3) := by decide +kernel
theorem dX8_law_37 : decode cX8_law 37 = .ok (.aload_n 0, 1) := by decide +kernel
theorem dX8_law_38 : decode cX8_law 38 = .ok (.getfield 86, 3) := by decide +kernel
theorem dX8_law_41 : decode cX8_law 41 = .ok (.goto 7, 3) := by decide +kernel
theorem dX8_law_44 : decode cX8_law 44 = .ok (.aload_n 0, 1) := by decide +kernel
theorem dX8_law_45 : decode cX8_law 45 = .ok (.getfield 111, 3) := by decide +kernel
theorem dX8_law_48 : decode cX8_law 48 = .ok (.istore_n 3, 1) := by decide +kernel
theorem dX8_law_49 : decode cX8_law 49 = .ok (.iload_n 1, 1) := by decide +kernel
theorem dX8_law_50 : decode cX8_law 50 = .ok (.ifCond .ne 11, 3) := by decide +kernel
theorem dX8_law_53 : decode cX8_law 53 = .ok (.aload_n 0, 1) := by decide +kernel
theorem dX8_law_54 : decode cX8_law 54 = .ok (.iload_n 2, 1) := by decide +kernel
theorem dX8_law_55 : decode cX8_law 55 = .ok (.putfield 86, 3) := by decide +kernel
theorem dX8_law_58 : decode cX8_law 58 = .ok (.goto 8, 3) := by decide +kernel
theorem dX8_law_61 : decode cX8_law 61 = .ok (.aload_n 0, 1) := by decide +kernel
theorem dX8_law_62 : decode cX8_law 62 = .ok (.iload_n 2, 1) := by decide +kernel
theorem dX8_law_63 : decode cX8_law 63 = .ok (.putfield 111, 3) := by decide +kernel
theorem dX8_law_66 : decode cX8_law 66 = .ok (.iload_n 3, 1) := by decide +kernel
theorem dX8_law_67 : decode cX8_law 67 = .ok (.ireturn, 1) := by decide +kernel
set_option maxRecDepth 20000 in
theorem ggX8_may_X8_isHouse : GoodIn wsX8_may wsX8_isHouse := goodIn_r _ [5, 6, 7, 8, 4, 9, 44, 45, 46, 47, 48, 49, 50, 51, 52, 53, 54, 55, 56, 57, 58, 59, 60, 61, 62, 63, 64, 65, 66, 67, 68, 69, 70, 71, 72, 73, 74, 75, 76] (by decide +kernel) (by decide +kernel)
set_option maxRecDepth 20000 in
theorem gX8_may_X8_isHouse : GoodIn wsX8_may (wsV RX8 82 RX8 yX8_isHouse wsX8_isHouse) := goodIn_app (goodIn_of _ (by decide +kernel)) ggX8_may_X8_isHouse
set_option maxRecDepth 20000 in
theorem ggX8_may_X8_doesStand : GoodIn wsX8_may wsX8_doesStand := goodIn_r _ [13, 14, 1, 2, 3, 4, 5, 6, 7, 8, 9, 44, 45, 46, 47, 48, 49, 50, 51, 52, 53, 54, 55, 56, 57, 58, 59, 60, 61, 62, 63, 64, 65, 66, 67, 68, 69, 70, 71, 72, 73, 74, 75, 76] (by decide +kernel) (by decide +kernel)
set_option maxRecDepth 20000 in
theorem gX8_may_X8_doesStand : GoodIn wsX8_may (wsV RX8 151 RX8 yX8_doesStand wsX8_doesStand) := goodIn_app (goodIn_of _ (by decide +kernel)) ggX8_may_X8_doesStand
set_option maxRecDepth 20000 in
theorem ggX8_may_X8_no : GoodIn wsX8_may wsX8_no := goodIn_r _ [18, 19, 44, 45, 46, 47, 48, 49, 50, 51, 52, 53, 54, 55, 56, 57, 58, 59, 60, 61, 62, 63, 64, 65, 66, 67, 68, 69, 70, 71, 72, 73, 74, 75, 76] (by decide +kernel) (by decide +kernel)
set_option maxRecDepth 20000 in
theorem gX8_may_X8_no : GoodIn wsX8_may (wsV RX8 127 RX8 yX8_no wsX8_no) := goodIn_app (goodIn_of _ (by decide +kernel)) ggX8_may_X8_no
set_option maxRecDepth 20000 in
theorem ggX8_may_X8_mayBe : GoodIn wsX8_may wsX8_mayBe := goodIn_r _ [23, 24, 25, 26, 27, 4, 28, 29, 30, 31, 32, 33, 34, 6, 14, 35, 36, 37, 38, 39, 40, 41, 42, 43, 44, 45, 46, 47, 48, 49, 50, 51, 52, 53, 54, 55, 56, 57, 58, 59, 60, 61, 62, 63, 64, 65, 66, 67, 68, 69, 70, 71, 72, 73, 74, 75, 76] (by decide +kernel) (by decide +kernel)
set_option maxRecDepth 20000 in
theorem gX8_may_X8_mayBe : GoodIn wsX8_may (wsV RX8 154 RX8 yX8_mayBe wsX8_mayBe) := goodIn_app (goodIn_of _ (by decide +kernel)) ggX8_may_X8_mayBe
theorem dX8_may_0 : decode cX8_may 0 = .ok (.aload_n 0, 1) := by decide +kernel
theorem dX8_may_1 : decode cX8_may 1 = .ok (.iload_n 1, 1) := by decide +kernel
theorem dX8_may_2 : decode cX8_may 2 = .ok (.invokevirtual 82, 3) := by decide +kernel
theorem dX8_may_5 : decode cX8_may 5 = .ok (.ifCond .eq 11, 3) := by decide +kernel
theorem dX8_may_8 : decode cX8_may 8 = .ok (.aload_n 0, 1) := by decide +kernel
theorem dX8_may_9 : decode cX8_may 9 = .ok (.iload_n 2, 1) := by decide +kernel
theorem dX8_may_10 : decode cX8_may 10 = .ok (.invokevirtual 82, 3) := by decide +kernel
theorem dX8_may_13 : decode cX8_may 13 = .ok (.ifCond .ne 7, 3) := by decide +kernel
theorem dX8_may_16 : decode cX8_may 16 = .ok (.iconst (-1), 1) := by decide +kernel
theorem dX8_may_17 : decode cX8_may 17 = .ok (.goto 25, 3) := by decide +kernel
theorem dX8_may_20 : decode cX8_may 20 = .ok (.aload_n 0, 1) := by decide +kernel
theorem dX8_may_21 : decode cX8_may 21 = .ok (.iload_n 1, 1) := by decide +kernel
theorem dX8_may_22 : decode cX8_may 22 = .ok (.invokevirtual 151, 3) := by decide +kernel
theorem dX8_may_25 : decode cX8_may 25 = .ok (.ifCond .eq 11, 3) := by decide +kernel
theorem dX8_may_28 : decode cX8_may 28 = .ok (.aload_n 0, 1) := by decide +kernel
theorem dX8_may_29 : decode cX8_may 29 = .ok (.iload_n 2, 1) := by decide +kernel
theorem dX8_may_30 : decode cX8_may 30 = .ok (.invokevirtual 151, 3) := by decide +kernel
theorem dX8_may_33 : decode cX8_may 33 = .ok (.ifCond .ne 8, 3) := by decide +kernel
theorem dX8_may_36 : decode cX8_may 36 = .ok (.bipush (-3), 2) := by decide +kernel
theorem dX8_may_38 : decode cX8_may 38 = .ok (.goto 4, 3) := by decide +kernel
theorem dX8_may_41 : decode cX8_may 41 = .ok (.iconst 0, 1) := by decide +kernel
theorem dX8_may_42 : decode cX8_may 42 = .ok (.istore_n 3, 1) := by decide +kernel
theorem dX8_may_43 : decode cX8_may 43 = .ok (.iload_n 3, 1) := by decide +kernel
theorem dX8_may_44 : decode cX8_may 44 = .ok (.ifCond .eq 11, 3) := by decide +kernel
theorem dX8_may_47 : decode cX8_may 47 = .ok (.aload_n 0, 1) := by decide +kernel
theorem dX8_may_48 : decode cX8_may 48 = .ok (.iload_n 3, 1) := by decide +kernel
theorem dX8_may_49 : decode cX8_may 49 = .ok (.invokevirtual 127, 3) := by decide +kernel
theorem dX8_may_52 : decode cX8_may 52 = .ok (.goto 17, 3) := by decide +kernel
theorem dX8_may_55 : decode cX8_may 55 = .ok (.aload_n 0, 1) := by decide +kernel
theorem dX8_may_56 : decode cX8_may 56 = .ok (.iload_n 1, 1) := by decide +kernel
theorem dX8_may_57 : decode cX8_may 57 = .ok (.iload_n 2, 1) := by decide +kernel
theorem dX8_may_58 : decode cX8_may 58 = .ok (.invokevirtual 154, 3) := by decide +kernel
theorem dX8_may_61 : decode cX8_may 61 = .ok (.ifCond .eq 7, 3) := by decide +kernel
theorem dX8_may_64 : decode cX8_may 64 = .ok (.iconst 1, 1) := by decide +kernel
theorem dX8_may_65 : decode cX8_may 65 = .ok (.goto 4, 3) := by decide +kernel
theorem dX8_may_68 : decode cX8_may 68 = .ok (.iconst 0, 1) := by decide +kernel
theorem dX8_may_69 : decode cX8_may 69 = .ok (.ireturn, 1) := by decide +kernel
set_option maxRecDepth 20000 in
theorem ggX8_canBe_X8_doesStand : GoodIn wsX8_canBe wsX8_doesStand := goodIn_r _ [5, 6, 7, 8, 9, 4, 10, 11, 12, 13, 14, 39, 40, 41, 42, 43, 44, 45, 46, 47, 48, 49, 50, 51, 52, 53, 54, 55, 56, 57, 58, 59, 60, 61, 62, 63, 64, 65, 66, 67, 68, 69, 70, 71] (by decide +kernel) (by decide +kernel)
set_option maxRecDepth 20000 in
theorem gX8_canBe_X8_doesStand : GoodIn wsX8_canBe (wsV RX8 151 RX8 yX8_doesStand wsX8_doesStand) := goodIn_app (goodIn_of _ (by decide +kernel)) ggX8_canBe_X8_doesStand
set_option maxRecDepth 20000 in
theorem ggX8_canBe_X8_mayBe : GoodIn wsX8_canBe wsX8_mayBe := goodIn_r _ [18, 19, 20, 21, 22, 4, 23, 24, 25, 26, 27, 28, 29, 11, 6, 30, 31, 32, 33, 34, 35, 36, 37, 38, 39, 40, 41, 42, 43, 44, 45, 46, 47, 48, 49, 50, 51, 52, 53, 54, 55, 56, 57, 58, 59, 60, 61, 62, 63, 64, 65, 66, 67, 68, 69, 70, 71] (by decide +kernel) (by decide +kernel)
set_option maxRecDepth 20000 in
theorem gX8_canBe_X8_mayBe : GoodIn wsX8_canBe (wsV RX8 154 RX8 yX8_mayBe wsX8_mayBe) := goodIn_app (goodIn_of _ (by decide +kernel)) ggX8_canBe_X8_mayBe
theorem dX8_canBe_0 : decode cX8_canBe 0 = .ok (.aload_n 0, 1) := by decide +kernel
theorem dX8_canBe_1 : decode cX8_canBe 1 = .ok (.iload_n 1, 1) := by decide +kernel
theorem dX8_canBe_2 : decode cX8_canBe 2 = .ok (.invokevirtual 151, 3) := by decide +kernel
theorem dX8_canBe_5 : decode cX8_canBe 5 = .ok (.ifCond .eq 24, 3) := by decide +kernel
theorem dX8_canBe_8 : decode cX8_canBe 8 = .ok (.aload_n 0, 1) := by decide +kernel
theorem dX8_canBe_9 : decode cX8_canBe 9 = .ok (.iload_n 2, 1) := by decide +kernel
theorem dX8_canBe_10 : decode cX8_canBe 10 = .ok (.invokevirtual 151, 3) := by decide +kernel
theorem dX8_canBe_13 : decode cX8_canBe 13 = .ok (.ifCond .eq 16, 3) := by decide +kernel
theorem dX8_canBe_16 : decode cX8_canBe 16 = .ok (.aload_n 0, 1) := by decide +kernel
theorem dX8_canBe_17 : decode cX8_canBe 17 = .ok (.iload_n 1, 1) := by decide +kernel
theorem dX8_canBe_18 : decode cX8_canBe 18 = .ok (.iload_n 2, 1) := by decide +kernel
theorem dX8_canBe_19 : decode cX8_canBe 19 = .ok (.invokevirtual 154, 3) := by decide +kernel
theorem dX8_canBe_22 : decode cX8_canBe 22 = .ok (.ifCond .eq 7, 3) := by decide +kernel
theorem dX8_canBe_25 : decode cX8_canBe 25 = .ok (.iconst 1, 1) := by decide +kernel
theorem dX8_canBe_26 : decode cX8_canBe 26 = .ok (.goto 4, 3) := by decide +kernel
theorem dX8_canBe_29 : decode cX8_canBe 29 = .ok (.iconst 0, 1) := by decide +kernel
theorem dX8_canBe_30 : decode cX8_canBe 30 = .ok (.ireturn, 1) := by decide +kernel
set_option maxRecDepth 20000 in
theorem ggX8_cost_X8_isHouse : GoodIn wsX8_cost wsX8_isHouse := goodIn_r _ [5, 6, 7, 8, 4, 9, 53, 54, 55, 56, 57, 58, 59, 60, 61, 62, 63, 64, 65, 66, 67, 68, 69, 70, 71, 72, 73, 74, 75, 76, 77, 78, 79, 80, 81, 82, 83, 84, 85] (by decide +kernel) (by decide +kernel)
set_option maxRecDepth 20000 in
theorem gX8_cost_X8_isHouse : GoodIn wsX8_cost (wsV RX8 82 RX8 yX8_isHouse wsX8_isHouse) := goodIn_app (goodIn_of _ (by decide +kernel)) ggX8_cost_X8_isHouse
set_option maxRecDepth 20000 in
theorem ggX8_cost_X8_canBe : GoodIn wsX8_cost wsX8_canBe := goodIn_r _ [13, 14, 15, 16, 4, 17, 18, 1, 2, 3, 5, 6, 7, 8, 9, 19, 20, 21, 22, 23, 24, 25, 26, 27, 28, 29, 30, 31, 32, 33, 34, 35, 36, 37, 38, 39, 40, 41, 42, 53, 54, 55, 56, 57, 58, 59, 60, 61, 62, 63, 64, 65, 66, 67, 68, 69, 70, 71, 72, 73, 74, 75, 76, 77, 78, 79, 80, 81, 82, 83, 84, 85] (by decide +kernel) (by decide +kernel)
set_option maxRecDepth 20000 in
theorem gX8_cost_X8_canBe : GoodIn wsX8_cost (wsV RX8 201 RX8 yX8_canBe wsX8_canBe) := goodIn_app (goodIn_of _ (by decide +kernel)) ggX8_cost_X8_canBe
set_option maxRecDepth 20000 in
theorem ggX8_cost_X8_no : GoodIn wsX8_cost wsX8_no := goodIn_r _ [46, 47, 53, 54, 55, 56, 57, 58, 59, 60, 61, 62, 63, 64, 65, 66, 67, 68, 69, 70, 71, 72, 73, 74, 75, 76, 77, 78, 79, 80, 81, 82, 83, 84, 85] (by decide +kernel) (by decide +kernel)
set_option maxRecDepth 20000 in
theorem gX8_cost_X8_no : GoodIn wsX8_cost (wsV RX8 127 RX8 yX8_no wsX8_no) := goodIn_app (goodIn_of _ (by decide +kernel)) ggX8_cost_X8_no
set_option maxRecDepth 20000 in
theorem ggX8_cost_X8_fee : GoodIn wsX8_cost wsX8_fee := goodIn_r _ [51, 28, 52, 53, 54, 55, 56, 57, 58, 59, 60, 61, 62, 63, 64, 65, 66, 67, 68, 69, 70, 71, 72, 73, 74, 75, 76, 77, 78, 79, 80, 81, 82, 83, 84, 85] (by decide +kernel) (by decide +kernel)
set_option maxRecDepth 20000 in
theorem gX8_cost_X8_fee : GoodIn wsX8_cost (wsV RX8 103 RX8 yX8_fee wsX8_fee) := goodIn_app (goodIn_of _ (by decide +kernel)) ggX8_cost_X8_fee
theorem dX8_cost_0 : decode cX8_cost 0 = .ok (.aload_n 0, 1) := by decide +kernel
theorem dX8_cost_1 : decode cX8_cost 1 = .ok (.iload_n 1, 1) := by decide +kernel
theorem dX8_cost_2 : decode cX8_cost 2 = .ok (.invokevirtual 82, 3) := by decide +kernel
theorem dX8_cost_5 : decode cX8_cost 5 = .ok (.ifCond .eq 11, 3) := by decide +kernel
theorem dX8_cost_8 : decode cX8_cost 8 = .ok (.aload_n 0, 1) := by decide +kernel
theorem dX8_cost_9 : decode cX8_cost 9 = .ok (.iload_n 2, 1) := by decide +kernel
theorem dX8_cost_10 : decode cX8_cost 10 = .ok (.invokevirtual 82, 3) := by decide +kernel
theorem dX8_cost_13 : decode cX8_cost 13 = .ok (.ifCond .ne 7, 3) := by decide +kernel
theorem dX8_cost_16 : decode cX8_cost 16 = .ok (.iconst (-1), 1) := by decide +kernel
theorem dX8_cost_17 : decode cX8_cost 17 = .ok (.goto 18, 3) := by decide +kernel
theorem dX8_cost_20 : decode cX8_cost 20 = .ok (.aload_n 0, 1) := by decide +kernel
theorem dX8_cost_21 : decode cX8_cost 21 = .ok (.iload_n 1, 1) := by decide +kernel
theorem dX8_cost_22 : decode cX8_cost 22 = .ok (.iload_n 2, 1) := by decide +kernel
theorem dX8_cost_23 : decode cX8_cost 23 = .ok (.invokevirtual 201, 3) := by decide +kernel
theorem dX8_cost_26 : decode cX8_cost 26 = .ok (.ifCond .ne 8, 3) := by decide +kernel
theorem dX8_cost_29 : decode cX8_cost 29 = .ok (.bipush (-3), 2) := by decide +kernel
theorem dX8_cost_31 : decode cX8_cost 31 = .ok (.goto 4, 3) := by decide +kernel
theorem dX8_cost_34 : decode cX8_cost 34 = .ok (.iconst 0, 1) := by decide +kernel
theorem dX8_cost_35 : decode cX8_cost 35 = .ok (.istore_n 3, 1) := by decide +kernel
theorem dX8_cost_36 : decode cX8_cost 36 = .ok (.iload_n 3, 1) := by decide +kernel
theorem dX8_cost_37 : decode cX8_cost 37 = .ok (.ifCond .eq 11, 3) := by decide +kernel
theorem dX8_cost_40 : decode cX8_cost 40 = .ok (.aload_n 0, 1) := by decide +kernel
theorem dX8_cost_41 : decode cX8_cost 41 = .ok (.iload_n 3, 1) := by decide +kernel
theorem dX8_cost_42 : decode cX8_cost 42 = .ok (.invokevirtual 127, 3) := by decide +kernel
theorem dX8_cost_45 : decode cX8_cost 45 = .ok (.goto 14, 3) := by decide +kernel
theorem dX8_cost_48 : decode cX8_cost 48 = .ok (.aload_n 0, 1) := by decide +kernel
theorem dX8_cost_49 : decode cX8_cost 49 = .ok (.iload_n 1, 1) := by decide +kernel
theorem dX8_cost_50 : decode cX8_cost 50 = .ok (.invokevirtual 103, 3) := by decide +kernel
theorem dX8_cost_53 : decode cX8_cost 53 = .ok (.aload_n 0, 1) := by decide +kernel
theorem dX8_cost_54 : decode cX8_cost 54 = .ok (.iload_n 2, 1) := by decide +kernel
theorem dX8_cost_55 : decode cX8_cost 55 = .ok (.invokevirtual 103, 3) := by decide +kernel
theorem dX8_cost_58 : decode cX8_cost 58 = .ok (.iadd, 1) := by decide +kernel
theorem dX8_cost_59 : decode cX8_cost 59 = .ok (.ireturn, 1) := by decide +kernel
set_option maxRecDepth 20000 in
theorem ggX8_add_X8_isHouse : GoodIn wsX8_add wsX8_isHouse := goodIn_r _ [6, 1, 7, 8, 5, 9, 71, 72, 73, 74, 75, 76, 77, 78, 79, 80, 81, 82, 83, 84, 85, 86, 87, 88, 89, 90, 91, 92, 93, 94, 95, 96, 97, 98, 99, 100, 101, 102, 103] (by decide +kernel) (by decide +kernel)
set_option maxRecDepth 20000 in
theorem gX8_add_X8_isHouse : GoodIn wsX8_add (wsV RX8 82 RX8 yX8_isHouse wsX8_isHouse) := goodIn_app (goodIn_of _ (by decide +kernel)) ggX8_add_X8_isHouse
set_option maxRecDepth 20000 in
theorem ggX8_add_X8_isIn : GoodIn wsX8_add wsX8_isIn := goodIn_r _ [9] (by decide +kernel) (by decide +kernel)
set_option maxRecDepth 20000 in
theorem gX8_add_X8_isIn : GoodIn wsX8_add (va_wsS RX8 78 yX8_isIn wsX8_isIn) := goodIn_app (goodIn_of _ (by decide +kernel)) ggX8_add_X8_isIn
set_option maxRecDepth 20000 in
theorem ggX8_add_X8_bound : GoodIn wsX8_add wsX8_bound := goodIn_r _ [12] (by decide +kernel) (by decide +kernel)
set_option maxRecDepth 20000 in
theorem gX8_add_X8_bound : GoodIn wsX8_add (va_wsS RX8 120 yX8_bound wsX8_bound) := goodIn_app (goodIn_of _ (by decide +kernel)) ggX8_add_X8_bound
set_option maxRecDepth 20000 in
theorem ggX8_add_X8_canBe : GoodIn wsX8_add wsX8_canBe := goodIn_r _ [16, 17, 18, 19, 5, 20, 21, 2, 3, 4, 6, 1, 7, 8, 9, 22, 23, 24, 25, 26, 27, 28, 29, 30, 31, 32, 33, 34, 35, 36, 37, 38, 39, 40, 41, 42, 43, 44, 45, 71, 72, 73, 74, 75, 76, 77, 78, 79, 80, 81, 82, 83, 84, 85, 86, 87, 88, 89, 90, 91, 92, 93, 94, 95, 96, 97, 98, 99, 100, 101, 102, 103] (by decide +kernel) (by decide +kernel)
set_option maxRecDepth 20000 in
theorem gX8_add_X8_canBe : GoodIn wsX8_add (wsV RX8 201 RX8 yX8_canBe wsX8_canBe) := goodIn_app (goodIn_of _ (by decide +kernel)) ggX8_add_X8_canBe
set_option maxRecDepth 20000 in
theorem ggX8_add_X8_no : GoodIn wsX8_add wsX8_no := goodIn_r _ [49, 50, 71, 72, 73, 74, 75, 76, 77, 78, 79, 80, 81, 82, 83, 84, 85, 86, 87, 88, 89, 90, 91, 92, 93, 94, 95, 96, 97, 98, 99, 100, 101, 102, 103] (by decide +kernel) (by decide +kernel)
set_option maxRecDepth 20000 in
theorem gX8_add_X8_no : GoodIn wsX8_add (wsV RX8 127 RX8 yX8_no wsX8_no) := goodIn_app (goodIn_of _ (by decide +kernel)) ggX8_add_X8_no
set_option maxRecDepth 20000 in
theorem ggX8_add_X8_builds : GoodIn wsX8_add wsX8_builds := goodIn_r _ [54, 26, 55, 56, 57, 5, 58, 32, 59, 31, 21, 60, 61, 62, 63, 64, 65, 66, 67, 68, 1, 69, 70, 71, 72, 73, 74, 75, 76, 77, 78, 79, 80, 81, 82, 83, 84, 85, 86, 87, 88, 89, 90, 91, 92, 93, 94, 95, 96, 97, 98, 99, 100, 101, 102, 103] (by decide +kernel) (by decide +kernel)
set_option maxRecDepth 20000 in
theorem gX8_add_X8_builds : GoodIn wsX8_add (wsV RX8 157 RX8 yX8_builds wsX8_builds) := goodIn_app (goodIn_of _ (by decide +kernel)) ggX8_add_X8_builds
theorem dX8_add_0 : decode cX8_add 0 = .ok (.aload_n 0, 1) := by decide +kernel
theorem dX8_add_1 : decode cX8_add 1 = .ok (.iload_n 1, 1) := by decide +kernel
theorem dX8_add_2 : decode cX8_add 2 = .ok (.invokevirtual 82, 3) := by decide +kernel
theorem dX8_add_5 : decode cX8_add 5 = .ok (.ifCond .eq 11, 3) := by decide +kernel
theorem dX8_add_8 : decode cX8_add 8 = .ok (.aload_n 0, 1) := by decide +kernel
theorem dX8_add_9 : decode cX8_add 9 = .ok (.iload_n 2, 1) := by decide +kernel
theorem dX8_add_10 : decode cX8_add 10 = .ok (.invokevirtual 82, 3) := by decide +kernel
theorem dX8_add_13 : decode cX8_add 13 = .ok (.ifCond .ne 7, 3) := by decide +kernel
theorem dX8_add_16 : decode cX8_add 16 = .ok (.iconst (-1), 1) := by decide +kernel
theorem dX8_add_17 : decode cX8_add 17 = .ok (.goto 25, 3) := by decide +kernel
theorem dX8_add_20 : decode cX8_add 20 = .ok (.iload_n 3, 1) := by decide +kernel
theorem dX8_add_21 : decode cX8_add 21 = .ok (.iconst 0, 1) := by decide +kernel
theorem dX8_add_22 : decode cX8_add 22 = .ok (.iconst 5, 1) := by decide +kernel
theorem dX8_add_23 : decode cX8_add 23 = .ok (.invokestatic 78, 3) := by decide +kernel
theorem dX8_add_26 : decode cX8_add 26 = .ok (.ifCond .ne 8, 3) := by decide +kernel
theorem dX8_add_29 : decode cX8_add 29 = .ok (.bipush (-2), 2) := by decide +kernel
theorem dX8_add_31 : decode cX8_add 31 = .ok (.goto 11, 3) := by decide +kernel
theorem dX8_add_34 : decode cX8_add 34 = .ok (.iload 4, 2) := by decide +kernel
theorem dX8_add_36 : decode cX8_add 36 = .ok (.iconst 0, 1) := by decide +kernel
theorem dX8_add_37 : decode cX8_add 37 = .ok (.bipush 9, 2) := by decide +kernel
theorem dX8_add_39 : decode cX8_add 39 = .ok (.invokestatic 120, 3) := by decide +kernel
theorem dX8_add_42 : decode cX8_add 42 = .ok (.istore 5, 2) := by decide +kernel
theorem dX8_add_44 : decode cX8_add 44 = .ok (.iload 5, 2) := by decide +kernel
theorem dX8_add_46 : decode cX8_add 46 = .ok (.ifCond .ne 34, 3) := by decide +kernel
theorem dX8_add_49 : decode cX8_add 49 = .ok (.aload_n 0, 1) := by decide +kernel
theorem dX8_add_50 : decode cX8_add 50 = .ok (.iload_n 1, 1) := by decide +kernel
theorem dX8_add_51 : decode cX8_add 51 = .ok (.iload_n 2, 1) := by decide +kernel
theorem dX8_add_52 : decode cX8_add 52 = .ok (.invokevirtual 201, 3) := by decide +kernel
theorem dX8_add_55 : decode cX8_add 55 = .ok (.ifCond .ne 8, 3) := by decide +kernel
theorem dX8_add_58 : decode cX8_add 58 = .ok (.bipush (-3), 2) := by decide +kernel
theorem dX8_add_60 : decode cX8_add 60 = .ok (.goto 18, 3) := by decide +kernel
theorem dX8_add_63 : decode cX8_add 63 = .ok (.aload_n 0, 1) := by decide +kernel
theorem dX8_add_64 : decode cX8_add 64 = .ok (.getfield 70, 3) := by decide +kernel
theorem dX8_add_67 : decode cX8_add 67 = .ok (.bipush 12, 2) := by decide +kernel
theorem dX8_add_69 : decode cX8_add 69 = .ok (.if_icmp .ne 8, 3) := by decide +kernel
theorem dX8_add_72 : decode cX8_add 72 = .ok (.bipush (-6), 2) := by decide +kernel
theorem dX8_add_74 : decode cX8_add 74 = .ok (.goto 4, 3) := by decide +kernel
theorem dX8_add_77 : decode cX8_add 77 = .ok (.iconst 0, 1) := by decide +kernel
theorem dX8_add_78 : decode cX8_add 78 = .ok (.istore 5, 2) := by decide +kernel
theorem dX8_add_80 : decode cX8_add 80 = .ok (.iload 5, 2) := by decide +kernel
theorem dX8_add_82 : decode cX8_add 82 = .ok (.ifCond .eq 10, 3) := by decide +kernel
theorem dX8_add_85 : decode cX8_add 85 = .ok (.aload_n 0, 1) := by decide +kernel
theorem dX8_add_86 : decode cX8_add 86 = .ok (.iload 5, 2) := by decide +kernel
theorem dX8_add_88 : decode cX8_add 88 = .ok (.invokevirtual 127, 3) := by decide +kernel
theorem dX8_add_91 : decode cX8_add 91 = .ok (.ireturn, 1) := by decide +kernel
theorem dX8_add_92 : decode cX8_add 92 = .ok (.aload_n 0, 1) := by decide +kernel
theorem dX8_add_93 : decode cX8_add 93 = .ok (.iload_n 1, 1) := by decide +kernel
theorem dX8_add_94 : decode cX8_add 94 = .ok (.iload_n 2, 1) := by decide +kernel
theorem dX8_add_95 : decode cX8_add 95 = .ok (.iload_n 3, 1) := by decide +kernel
theorem dX8_add_96 : decode cX8_add 96 = .ok (.iload 4, 2) := by decide +kernel
theorem dX8_add_98 : decode cX8_add 98 = .ok (.invokevirtual 157, 3) := by decide +kernel
theorem dX8_add_101 : decode cX8_add 101 = .ok (.aload_n 0, 1) := by decide +kernel
theorem dX8_add_102 : decode cX8_add 102 = .ok (.getfield 70, 3) := by decide +kernel
theorem dX8_add_105 : decode cX8_add 105 = .ok (.iconst 1, 1) := by decide +kernel
theorem dX8_add_106 : decode cX8_add 106 = .ok (.isub, 1) := by decide +kernel
theorem dX8_add_107 : decode cX8_add 107 = .ok (.ireturn, 1) := by decide +kernel
set_option maxRecDepth 20000 in
theorem ggX8_burn_X8_isHouse : GoodIn wsX8_burn wsX8_isHouse := goodIn_r _ [5, 6, 7, 8, 4, 9, 43, 44, 45, 46, 47, 48, 49, 50, 51, 52, 53, 54, 55, 56, 57, 58, 59, 60, 61, 62, 63, 64, 65, 66, 67, 68, 69, 70, 71, 72, 73, 74, 75] (by decide +kernel) (by decide +kernel)
set_option maxRecDepth 20000 in
theorem gX8_burn_X8_isHouse : GoodIn wsX8_burn (wsV RX8 82 RX8 yX8_isHouse wsX8_isHouse) := goodIn_app (goodIn_of _ (by decide +kernel)) ggX8_burn_X8_isHouse
set_option maxRecDepth 20000 in
theorem ggX8_burn_X8_doesStand : GoodIn wsX8_burn wsX8_doesStand := goodIn_r _ [13, 14, 1, 2, 3, 4, 5, 6, 7, 8, 9, 43, 44, 45, 46, 47, 48, 49, 50, 51, 52, 53, 54, 55, 56, 57, 58, 59, 60, 61, 62, 63, 64, 65, 66, 67, 68, 69, 70, 71, 72, 73, 74, 75] (by decide +kernel) (by decide +kernel)
set_option maxRecDepth 20000 in
theorem gX8_burn_X8_doesStand : GoodIn wsX8_burn (wsV RX8 151 RX8 yX8_doesStand wsX8_doesStand) := goodIn_app (goodIn_of _ (by decide +kernel)) ggX8_burn_X8_doesStand
set_option maxRecDepth 20000 in
theorem ggX8_burn_X8_no : GoodIn wsX8_burn wsX8_no := goodIn_r _ [18, 19, 43, 44, 45, 46, 47, 48, 49, 50, 51, 52, 53, 54, 55, 56, 57, 58, 59, 60, 61, 62, 63, 64, 65, 66, 67, 68, 69, 70, 71, 72, 73, 74, 75] (by decide +kernel) (by decide +kernel)
set_option maxRecDepth 20000 in
theorem gX8_burn_X8_no : GoodIn wsX8_burn (wsV RX8 127 RX8 yX8_no wsX8_no) := goodIn_app (goodIn_of _ (by decide +kernel)) ggX8_burn_X8_no
set_option maxRecDepth 20000 in
theorem ggX8_burn_X8_standing : GoodIn wsX8_burn wsX8_standing := goodIn_r _ [23, 6, 14, 43, 44, 45, 46, 47, 48, 49, 50, 51, 52, 53, 54, 55, 56, 57, 58, 59, 60, 61, 62, 63, 64, 65, 66, 67, 68, 69, 70, 71, 72, 73, 74, 75] (by decide +kernel) (by decide +kernel)
set_option maxRecDepth 20000 in
theorem gX8_burn_X8_standing : GoodIn wsX8_burn (wsV RX8 204 RX8 yX8_standing wsX8_standing) := goodIn_app (goodIn_of _ (by decide +kernel)) ggX8_burn_X8_standing
set_option maxRecDepth 20000 in
theorem ggX8_burn_X8_bits : GoodIn wsX8_burn wsX8_bits := goodIn_r _ [26] (by decide +kernel) (by decide +kernel)
set_option maxRecDepth 20000 in
theorem gX8_burn_X8_bits : GoodIn wsX8_burn (va_wsS RX8 207 yX8_bits wsX8_bits) := goodIn_app (goodIn_of _ (by decide +kernel)) ggX8_burn_X8_bits
set_option maxRecDepth 20000 in
theorem ggX8_burn_X8_burns : GoodIn wsX8_burn wsX8_burns := goodIn_r _ [30, 14, 6, 31, 32, 33, 4, 34, 35, 36, 37, 38, 39, 40, 41, 42, 43, 44, 45, 46, 47, 48, 49, 50, 51, 52, 53, 54, 55, 56, 57, 58, 59, 60, 61, 62, 63, 64, 65, 66, 67, 68, 69, 70, 71, 72, 73, 74, 75] (by decide +kernel) (by decide +kernel)
set_option maxRecDepth 20000 in
theorem gX8_burn_X8_burns : GoodIn wsX8_burn (wsV RX8 161 RX8 yX8_burns wsX8_burns) := goodIn_app (goodIn_of _ (by decide +kernel)) ggX8_burn_X8_burns
theorem dX8_burn_0 : decode cX8_burn 0 = .ok (.aload_n 0, 1) := by decide +kernel
theorem dX8_burn_1 : decode cX8_burn 1 = .ok (.iload_n 1, 1) := by decide +kernel
theorem dX8_burn_2 : decode cX8_burn 2 = .ok (.invokevirtual 82, 3) := by decide +kernel
theorem dX8_burn_5 : decode cX8_burn 5 = .ok (.ifCond .ne 7, 3) := by decide +kernel
theorem dX8_burn_8 : decode cX8_burn 8 = .ok (.iconst (-1), 1) := by decide +kernel
theorem dX8_burn_9 : decode cX8_burn 9 = .ok (.goto 17, 3) := by decide +kernel
theorem dX8_burn_12 : decode cX8_burn 12 = .ok (.aload_n 0, 1) := by decide +kernel
theorem dX8_burn_13 : decode cX8_burn 13 = .ok (.iload_n 1, 1) := by decide +kernel
theorem dX8_burn_14 : decode cX8_burn 14 = .ok (.invokevirtual 151, 3) := by decide +kernel
theorem dX8_burn_17 : decode cX8_burn 17 = .ok (.ifCond .ne 8, 3) := by decide +kernel
theorem dX8_burn_20 : decode cX8_burn 20 = .ok (.bipush (-3), 2) := by decide +kernel
theorem dX8_burn_22 : decode cX8_burn 22 = .ok (.goto 4, 3) := by decide +kernel
theorem dX8_burn_25 : decode cX8_burn 25 = .ok (.iconst 0, 1) := by decide +kernel
theorem dX8_burn_26 : decode cX8_burn 26 = .ok (.istore_n 2, 1) := by decide +kernel
theorem dX8_burn_27 : decode cX8_burn 27 = .ok (.iload_n 2, 1) := by decide +kernel
theorem dX8_burn_28 : decode cX8_burn 28 = .ok (.ifCond .eq 9, 3) := by decide +kernel
theorem dX8_burn_31 : decode cX8_burn 31 = .ok (.aload_n 0, 1) := by decide +kernel
theorem dX8_burn_32 : decode cX8_burn 32 = .ok (.iload_n 2, 1) := by decide +kernel
theorem dX8_burn_33 : decode cX8_burn 33 = .ok (.invokevirtual 127, 3) := by decide +kernel
theorem dX8_burn_36 : decode cX8_burn 36 = .ok (.ireturn, 1) := by decide +kernel
theorem dX8_burn_37 : decode cX8_burn 37 = .ok (.aload_n 0, 1) := by decide +kernel
theorem dX8_burn_38 : decode cX8_burn 38 = .ok (.invokevirtual 204, 3) := by decide +kernel
theorem dX8_burn_41 : decode cX8_burn 41 = .ok (.invokestatic 207, 3) := by decide +kernel
theorem dX8_burn_44 : decode cX8_burn 44 = .ok (.istore_n 3, 1) := by decide +kernel
theorem dX8_burn_45 : decode cX8_burn 45 = .ok (.aload_n 0, 1) := by decide +kernel
theorem dX8_burn_46 : decode cX8_burn 46 = .ok (.iload_n 1, 1) := by decide +kernel
theorem dX8_burn_47 : decode cX8_burn 47 = .ok (.invokevirtual 161, 3) := by decide +kernel
theorem dX8_burn_50 : decode cX8_burn 50 = .ok (.iload_n 3, 1) := by decide +kernel
theorem dX8_burn_51 : decode cX8_burn 51 = .ok (.aload_n 0, 1) := by decide +kernel
theorem dX8_burn_52 : decode cX8_burn 52 = .ok (.invokevirtual 204, 3) := by decide +kernel
theorem dX8_burn_55 : decode cX8_burn 55 = .ok (.invokestatic 207, 3) := by decide +kernel
theorem dX8_burn_58 : decode cX8_burn 58 = .ok (.isub, 1) := by decide +kernel
theorem dX8_burn_59 : decode cX8_burn 59 = .ok (.ireturn, 1) := by decide +kernel
set_option maxRecDepth 20000 in
theorem ggX8_hangsOn_X8_standing : GoodIn wsX8_hangsOn wsX8_standing := goodIn_r _ [5, 6, 7, 44, 45, 46, 47, 48, 49, 50, 51, 52, 53, 54, 55, 56, 57, 58, 59, 60, 61, 62, 63, 64, 65, 66, 67, 68, 69, 70, 71, 72, 73, 74, 75, 76] (by decide +kernel) (by decide +kernel)
set_option maxRecDepth 20000 in
theorem gX8_hangsOn_X8_standing : GoodIn wsX8_hangsOn (wsV RX8 204 RX8 yX8_standing wsX8_standing) := goodIn_app (goodIn_of _ (by decide +kernel)) ggX8_hangsOn_X8_standing
set_option maxRecDepth 20000 in
theorem ggX8_hangsOn_X8_passesAll : GoodIn wsX8_hangsOn wsX8_passesAll := goodIn_r _ [11, 12, 13, 14, 15, 16, 17, 18, 7, 19, 20, 6, 21, 22, 23, 24, 25, 4, 26, 27, 28, 29, 30, 31, 44, 45, 46, 47, 48, 49, 50, 51, 52, 53, 54, 55, 56, 57, 58, 59, 60, 61, 62, 63, 64, 65, 66, 67, 68, 69, 70, 71, 72, 73, 74, 75, 76] (by decide +kernel) (by decide +kernel)
set_option maxRecDepth 20000 in
theorem gX8_hangsOn_X8_passesAll : GoodIn wsX8_hangsOn (wsV RX8 177 RX8 yX8_passesAll wsX8_passesAll) := goodIn_app (goodIn_of _ (by decide +kernel)) ggX8_hangsOn_X8_passesAll
set_option maxRecDepth 20000 in
theorem ggX8_hangsOn_X8_burns : GoodIn wsX8_hangsOn wsX8_burns := goodIn_r _ [35, 7, 6, 36, 37, 38, 4, 39, 22, 15, 17, 18, 40, 41, 42, 43, 44, 45, 46, 47, 48, 49, 50, 51, 52, 53, 54, 55, 56, 57, 58, 59, 60, 61, 62, 63, 64, 65, 66, 67, 68, 69, 70, 71, 72, 73, 74, 75, 76] (by decide +kernel) (by decide +kernel)
set_option maxRecDepth 20000 in
theorem gX8_hangsOn_X8_burns : GoodIn wsX8_hangsOn (wsV RX8 161 RX8 yX8_burns wsX8_burns) := goodIn_app (goodIn_of _ (by decide +kernel)) ggX8_hangsOn_X8_burns
theorem dX8_hangsOn_0 : decode cX8_hangsOn 0 = .ok (.aload_n 0, 1) := by decide +kernel
theorem dX8_hangsOn_1 : decode cX8_hangsOn 1 = .ok (.invokevirtual 204, 3) := by decide +kernel
theorem dX8_hangsOn_4 : decode cX8_hangsOn 4 = .ok (.istore_n 2, 1) := by decide +kernel
theorem dX8_hangsOn_5 : decode cX8_hangsOn 5 = .ok (.aload_n 0, 1) := by decide +kernel
theorem dX8_hangsOn_6 : decode cX8_hangsOn 6 = .ok (.iconst 2, 1) := by decide +kernel
theorem dX8_hangsOn_7 : decode cX8_hangsOn 7 = .ok (.iconst 1, 1) := by decide +kernel
theorem dX8_hangsOn_8 : decode cX8_hangsOn 8 = .ok (.invokevirtual 177, 3) := by decide +kernel
theorem dX8_hangsOn_11 : decode cX8_hangsOn 11 = .ok (.aload_n 0, 1) := by decide +kernel
theorem dX8_hangsOn_12 : decode cX8_hangsOn 12 = .ok (.iload_n 1, 1) := by decide +kernel
theorem dX8_hangsOn_13 : decode cX8_hangsOn 13 = .ok (.invokevirtual 161, 3) := by decide +kernel
theorem dX8_hangsOn_16 : decode cX8_hangsOn 16 = .ok (.iload_n 2, 1) := by decide +kernel
theorem dX8_hangsOn_17 : decode cX8_hangsOn 17 = .ok (.aload_n 0, 1) := by decide +kernel
theorem dX8_hangsOn_18 : decode cX8_hangsOn 18 = .ok (.invokevirtual 204, 3) := by decide +kernel
theorem dX8_hangsOn_21 : decode cX8_hangsOn 21 = .ok (.iconst (-1), 1) := by decide +kernel
theorem dX8_hangsOn_22 : decode cX8_hangsOn 22 = .ok (.ixor, 1) := by decide +kernel
theorem dX8_hangsOn_23 : decode cX8_hangsOn 23 = .ok (.iand, 1) := by decide +kernel
theorem dX8_hangsOn_24 : decode cX8_hangsOn 24 = .ok (.istore_n 3, 1) := by decide +kernel
theorem dX8_hangsOn_25 : decode cX8_hangsOn 25 = .ok (.aload_n 0, 1) := by decide +kernel
theorem dX8_hangsOn_26 : decode cX8_hangsOn 26 = .ok (.iconst 2, 1) := by decide +kernel
theorem dX8_hangsOn_27 : decode cX8_hangsOn 27 = .ok (.iconst 0, 1) := by decide +kernel
theorem dX8_hangsOn_28 : decode cX8_hangsOn 28 = .ok (.invokevirtual 177, 3) := by decide +kernel
theorem dX8_hangsOn_31 : decode cX8_hangsOn 31 = .ok (.iload_n 3, 1) := by decide +kernel
theorem dX8_hangsOn_32 : decode cX8_hangsOn 32 = .ok (.ireturn, 1) := by decide +kernel
set_option maxRecDepth 20000 in
theorem ggX8_hangs_X8_isHouse : GoodIn wsX8_hangs wsX8_isHouse := goodIn_r _ [5, 6, 7, 8, 4, 9, 64, 65, 66, 67, 68, 69, 70, 71, 72, 73, 74, 75, 76, 77, 78, 79, 80, 81, 82, 83, 84, 85, 86, 87, 88, 89, 90, 91, 92, 93, 94, 95, 96] (by decide +kernel) (by decide +kernel)
set_option maxRecDepth 20000 in
theorem gX8_hangs_X8_isHouse : GoodIn wsX8_hangs (wsV RX8 82 RX8 yX8_isHouse wsX8_isHouse) := goodIn_app (goodIn_of _ (by decide +kernel)) ggX8_hangs_X8_isHouse
set_option maxRecDepth 20000 in
theorem ggX8_hangs_X8_doesStand : GoodIn wsX8_hangs wsX8_doesStand := goodIn_r _ [13, 14, 1, 2, 3, 4, 5, 6, 7, 8, 9, 64, 65, 66, 67, 68, 69, 70, 71, 72, 73, 74, 75, 76, 77, 78, 79, 80, 81, 82, 83, 84, 85, 86, 87, 88, 89, 90, 91, 92, 93, 94, 95, 96] (by decide +kernel) (by decide +kernel)
set_option maxRecDepth 20000 in
theorem gX8_hangs_X8_doesStand : GoodIn wsX8_hangs (wsV RX8 151 RX8 yX8_doesStand wsX8_doesStand) := goodIn_app (goodIn_of _ (by decide +kernel)) ggX8_hangs_X8_doesStand
set_option maxRecDepth 20000 in
theorem ggX8_hangs_X8_no : GoodIn wsX8_hangs wsX8_no := goodIn_r _ [18, 19, 64, 65, 66, 67, 68, 69, 70, 71, 72, 73, 74, 75, 76, 77, 78, 79, 80, 81, 82, 83, 84, 85, 86, 87, 88, 89, 90, 91, 92, 93, 94, 95, 96] (by decide +kernel) (by decide +kernel)
set_option maxRecDepth 20000 in
theorem gX8_hangs_X8_no : GoodIn wsX8_hangs (wsV RX8 127 RX8 yX8_no wsX8_no) := goodIn_app (goodIn_of _ (by decide +kernel)) ggX8_hangs_X8_no
set_option maxRecDepth 20000 in
theorem ggX8_hangs_X8_hangsOn : GoodIn wsX8_hangs wsX8_hangsOn := goodIn_r _ [23, 24, 25, 26, 4, 27, 6, 14, 28, 29, 30, 31, 32, 33, 34, 35, 36, 37, 38, 39, 40, 41, 42, 43, 44, 45, 46, 47, 48, 49, 50, 51, 52, 53, 54, 55, 56, 57, 58, 59, 60, 61, 62, 63, 64, 65, 66, 67, 68, 69, 70, 71, 72, 73, 74, 75, 76, 77, 78, 79, 80, 81, 82, 83, 84, 85, 86, 87, 88, 89, 90, 91, 92, 93, 94, 95, 96] (by decide +kernel) (by decide +kernel)
set_option maxRecDepth 20000 in
theorem gX8_hangs_X8_hangsOn : GoodIn wsX8_hangs (wsV RX8 210 RX8 yX8_hangsOn wsX8_hangsOn) := goodIn_app (goodIn_of _ (by decide +kernel)) ggX8_hangs_X8_hangsOn
theorem dX8_hangs_0 : decode cX8_hangs 0 = .ok (.aload_n 0, 1) := by decide +kernel
theorem dX8_hangs_1 : decode cX8_hangs 1 = .ok (.iload_n 1, 1) := by decide +kernel
theorem dX8_hangs_2 : decode cX8_hangs 2 = .ok (.invokevirtual 82, 3) := by decide +kernel
theorem dX8_hangs_5 : decode cX8_hangs 5 = .ok (.ifCond .ne 7, 3) := by decide +kernel
theorem dX8_hangs_8 : decode cX8_hangs 8 = .ok (.iconst (-1), 1) := by decide +kernel
theorem dX8_hangs_9 : decode cX8_hangs 9 = .ok (.goto 17, 3) := by decide +kernel
theorem dX8_hangs_12 : decode cX8_hangs 12 = .ok (.aload_n 0, 1) := by decide +kernel
theorem dX8_hangs_13 : decode cX8_hangs 13 = .ok (.iload_n 1, 1) := by decide +kernel
theorem dX8_hangs_14 : decode cX8_hangs 14 = .ok (.invokevirtual 151, 3) := by decide +kernel
theorem dX8_hangs_17 : decode cX8_hangs 17 = .ok (.ifCond .ne 8, 3) := by decide +kernel
theorem dX8_hangs_20 : decode cX8_hangs 20 = .ok (.bipush (-3), 2) := by decide +kernel
theorem dX8_hangs_22 : decode cX8_hangs 22 = .ok (.goto 4, 3) := by decide +kernel
theorem dX8_hangs_25 : decode cX8_hangs 25 = .ok (.iconst 0, 1) := by decide +kernel
theorem dX8_hangs_26 : decode cX8_hangs 26 = .ok (.istore_n 2, 1) := by decide +kernel
theorem dX8_hangs_27 : decode cX8_hangs 27 = .ok (.iload_n 2, 1) := by decide +kernel
theorem dX8_hangs_28 : decode cX8_hangs 28 = .ok (.ifCond .eq 11, 3) := by decide +kernel
theorem dX8_hangs_31 : decode cX8_hangs 31 = .ok (.aload_n 0, 1) := by decide +kernel
theorem dX8_hangs_32 : decode cX8_hangs 32 = .ok (.iload_n 2, 1) := by decide +kernel
theorem dX8_hangs_33 : decode cX8_hangs 33 = .ok (.invokevirtual 127, 3) := by decide +kernel
theorem dX8_hangs_36 : decode cX8_hangs 36 = .ok (.goto 8, 3) := by decide +kernel
theorem dX8_hangs_39 : decode cX8_hangs 39 = .ok (.aload_n 0, 1) := by decide +kernel
theorem dX8_hangs_40 : decode cX8_hangs 40 = .ok (.iload_n 1, 1) := by decide +kernel
theorem dX8_hangs_41 : decode cX8_hangs 41 = .ok (.invokevirtual 210, 3) := by decide +kernel
theorem dX8_hangs_44 : decode cX8_hangs 44 = .ok (.ireturn, 1) := by decide +kernel
set_option maxRecDepth 20000 in
theorem ggX8_save_X8_hangsOn : GoodIn wsX8_save wsX8_hangsOn := goodIn_r _ [7, 8, 9, 10, 6, 11, 1, 2, 12, 13, 14, 15, 16, 17, 18, 19, 20, 21, 22, 23, 24, 25, 26, 27, 28, 29, 30, 31, 32, 33, 34, 35, 36, 37, 38, 39, 40, 41, 42, 43, 44, 45, 46, 47, 51, 52, 53, 54, 55, 56, 57, 58, 59, 60, 61, 62, 63, 64, 65, 66, 67, 68, 69, 70, 71, 72, 73, 74, 75, 76, 77, 78, 79, 80, 81, 82, 83] (by decide +kernel) (by decide +kernel)
set_option maxRecDepth 20000 in
theorem gX8_save_X8_hangsOn : GoodIn wsX8_save (wsV RX8 210 RX8 yX8_hangsOn wsX8_hangsOn) := goodIn_app (goodIn_of _ (by decide +kernel)) ggX8_save_X8_hangsOn
set_option maxRecDepth 20000 in
theorem ggX8_save_X8_bits : GoodIn wsX8_save wsX8_bits := goodIn_r _ [50] (by decide +kernel) (by decide +kernel)
set_option maxRecDepth 20000 in
theorem gX8_save_X8_bits : GoodIn wsX8_save (va_wsS RX8 207 yX8_bits wsX8_bits) := goodIn_app (goodIn_of _ (by decide +kernel)) ggX8_save_X8_bits
theorem dX8_save_0 : decode cX8_save 0 = .ok (.bipush (-9), 2) := by decide +kernel
theorem dX8_save_2 : decode cX8_save 2 = .ok (.istore_n 1, 1) := by decide +kernel
theorem dX8_save_3 : decode cX8_save 3 = .ok (.iconst 0, 1) := by decide +kernel
theorem dX8_save_4 : decode cX8_save 4 = .ok (.istore_n 2, 1) := by decide +kernel
theorem dX8_save_5 : decode cX8_save 5 = .ok (.iconst 0, 1) := by decide +kernel
theorem dX8_save_6 : decode cX8_save 6 = .ok (.istore_n 3, 1) := by decide +kernel
theorem dX8_save_7 : decode cX8_save 7 = .ok (.iload_n 3, 1) := by decide +kernel
theorem dX8_save_8 : decode cX8_save 8 = .ok (.aload_n 0, 1) := by decide +kernel
theorem dX8_save_9 : decode cX8_save 9 = .ok (.getfield 70, 3) := by decide +kernel
theorem dX8_save_12 : decode cX8_save 12 = .ok (.if_icmp .ge 47, 3) := by decide +kernel
theorem dX8_save_15 : decode cX8_save 15 = .ok (.aload_n 0, 1) := by decide +kernel
theorem dX8_save_16 : decode cX8_save 16 = .ok (.getfield 28, 3) := by decide +kernel
theorem dX8_save_19 : decode cX8_save 19 = .ok (.iload_n 3, 1) := by decide +kernel
theorem dX8_save_20 : decode cX8_save 20 = .ok (.iaload, 1) := by decide +kernel
theorem dX8_save_21 : decode cX8_save 21 = .ok (.iconst 1, 1) := by decide +kernel
theorem dX8_save_22 : decode cX8_save 22 = .ok (.if_icmp .ne 14, 3) := by decide +kernel
theorem dX8_save_25 : decode cX8_save 25 = .ok (.aload_n 0, 1) := by decide +kernel
theorem dX8_save_26 : decode cX8_save 26 = .ok (.iload_n 3, 1) := by decide +kernel
theorem dX8_save_27 : decode cX8_save 27 = .ok (.invokevirtual 210, 3) := by decide +kernel
theorem dX8_save_30 : decode cX8_save 30 = .ok (.invokestatic 207, 3) := by decide +kernel
theorem dX8_save_33 : decode cX8_save 33 = .ok (.goto 4, 3) := by decide +kernel
theorem dX8_save_36 : decode cX8_save 36 = .ok (.iconst 0, 1) := by decide +kernel
theorem dX8_save_37 : decode cX8_save 37 = .ok (.istore 4, 2) := by decide +kernel
theorem dX8_save_39 : decode cX8_save 39 = .ok (.iload 4, 2) := by decide +kernel
theorem dX8_save_41 : decode cX8_save 41 = .ok (.iload_n 2, 1) := by decide +kernel
theorem dX8_save_42 : decode cX8_save 42 = .ok (.if_icmp .gt 6, 3) := by decide +kernel
theorem dX8_save_45 : decode cX8_save 45 = .ok (.goto 8, 3) := by decide +kernel
theorem dX8_save_48 : decode cX8_save 48 = .ok (.iload_n 3, 1) := by decide +kernel
theorem dX8_save_49 : decode cX8_save 49 = .ok (.istore_n 1, 1) := by decide +kernel
theorem dX8_save_50 : decode cX8_save 50 = .ok (.iload 4, 2) := by decide +kernel
theorem dX8_save_52 : decode cX8_save 52 = .ok (.istore_n 2, 1) := by decide +kernel
theorem dX8_save_53 : decode cX8_save 53 = .ok (.iinc 3 1, 3) := by decide +kernel
theorem dX8_save_56 : decode cX8_save 56 = .ok (.goto (-49), 3) := by decide +kernel
theorem dX8_save_59 : decode cX8_save 59 = .ok (.iload_n 1, 1) := by decide +kernel
theorem dX8_save_60 : decode cX8_save 60 = .ok (.ireturn, 1) := by decide +kernel
theorem dX8_isSum_0 : decode cX8_isSum 0 = .ok (.iconst 0, 1) := by decide +kernel
theorem dX8_isSum_1 : decode cX8_isSum 1 = .ok (.istore_n 3, 1) := by decide +kernel
theorem dX8_isSum_2 : decode cX8_isSum 2 = .ok (.iload_n 3, 1) := by decide +kernel
theorem dX8_isSum_3 : decode cX8_isSum 3 = .ok (.iload_n 2, 1) := by decide +kernel
theorem dX8_isSum_4 : decode cX8_isSum 4 = .ok (.if_icmp .ge 44, 3) := by decide +kernel
theorem dX8_isSum_7 : decode cX8_isSum 7 = .ok (.iload_n 3, 1) := by decide +kernel
theorem dX8_isSum_8 : decode cX8_isSum 8 = .ok (.istore 4, 2) := by decide +kernel
theorem dX8_isSum_10 : decode cX8_isSum 10 = .ok (.iload 4, 2) := by decide +kernel
theorem dX8_isSum_12 : decode cX8_isSum 12 = .ok (.iload_n 2, 1) := by decide +kernel
theorem dX8_isSum_13 : decode cX8_isSum 13 = .ok (.if_icmp .ge 29, 3) := by decide +kernel
theorem dX8_isSum_16 : decode cX8_isSum 16 = .ok (.aload_n 0, 1) := by decide +kernel
theorem dX8_isSum_17 : decode cX8_isSum 17 = .ok (.getfield 52, 3) := by decide +kernel
theorem dX8_isSum_20 : decode cX8_isSum 20 = .ok (.iload_n 3, 1) := by decide +kernel
theorem dX8_isSum_21 : decode cX8_isSum 21 = .ok (.iaload, 1) := by decide +kernel
theorem dX8_isSum_22 : decode cX8_isSum 22 = .ok (.aload_n 0, 1) := by decide +kernel
theorem dX8_isSum_23 : decode cX8_isSum 23 = .ok (.getfield 52, 3) := by decide +kernel
theorem dX8_isSum_26 : decode cX8_isSum 26 = .ok (.iload 4, 2) := by decide +kernel
theorem dX8_isSum_28 : decode cX8_isSum 28 = .ok (.iaload, 1) := by decide +kernel
theorem dX8_isSum_29 : decode cX8_isSum 29 = .ok (.iadd, 1) := by decide +kernel
theorem dX8_isSum_30 : decode cX8_isSum 30 = .ok (.iload_n 1, 1) := by decide +kernel
theorem dX8_isSum_31 : decode cX8_isSum 31 = .ok (.if_icmp .ne 5, 3) := by decide +kernel
theorem dX8_isSum_34 : decode cX8_isSum 34 = .ok (.iconst 1, 1) := by decide +kernel
theorem dX8_isSum_35 : decode cX8_isSum 35 = .ok (.ireturn, 1) := by decide +kernel
theorem dX8_isSum_36 : decode cX8_isSum 36 = .ok (.iinc 4 1, 3) := by decide +kernel
theorem dX8_isSum_39 : decode cX8_isSum 39 = .ok (.goto (-29), 3) := by decide +kernel
theorem dX8_isSum_42 : decode cX8_isSum 42 = .ok (.iinc 3 1, 3) := by decide +kernel
theorem dX8_isSum_45 : decode cX8_isSum 45 = .ok (.goto (-43), 3) := by decide +kernel
theorem dX8_isSum_48 : decode cX8_isSum 48 = .ok (.iconst 0, 1) := by decide +kernel
theorem dX8_isSum_49 : decode cX8_isSum 49 = .ok (.ireturn, 1) := by decide +kernel
theorem dX8_canReach_0 : decode cX8_canReach 0 = .ok (.iload_n 1, 1) := by decide +kernel
theorem dX8_canReach_1 : decode cX8_canReach 1 = .ok (.istore_n 3, 1) := by decide +kernel
theorem dX8_canReach_2 : decode cX8_canReach 2 = .ok (.iconst 0, 1) := by decide +kernel
theorem dX8_canReach_3 : decode cX8_canReach 3 = .ok (.istore 4, 2) := by decide +kernel
theorem dX8_canReach_5 : decode cX8_canReach 5 = .ok (.iload 4, 2) := by decide +kernel
theorem dX8_canReach_7 : decode cX8_canReach 7 = .ok (.iload_n 2, 1) := by decide +kernel
theorem dX8_canReach_8 : decode cX8_canReach 8 = .ok (.if_icmp .ge 21, 3) := by decide +kernel
theorem dX8_canReach_11 : decode cX8_canReach 11 = .ok (.iload_n 3, 1) := by decide +kernel
theorem dX8_canReach_12 : decode cX8_canReach 12 = .ok (.aload_n 0, 1) := by decide +kernel
theorem dX8_canReach_13 : decode cX8_canReach 13 = .ok (.getfield 213, 3) := by decide +kernel
theorem dX8_canReach_16 : decode cX8_canReach 16 = .ok (.if_icmp .ge 13, 3) := by decide +kernel
theorem dX8_canReach_19 : decode cX8_canReach 19 = .ok (.iload_n 3, 1) := by decide +kernel
theorem dX8_canReach_20 : decode cX8_canReach 20 = .ok (.iconst 2, 1) := by decide +kernel
theorem dX8_canReach_21 : decode cX8_canReach 21 = .ok (.imul, 1) := by decide +kernel
theorem dX8_canReach_22 : decode cX8_canReach 22 = .ok (.istore_n 3, 1) := by decide +kernel
theorem dX8_canReach_23 : decode cX8_canReach 23 = .ok (.iinc 4 1, 3) := by decide +kernel
theorem dX8_canReach_26 : decode cX8_canReach 26 = .ok (.goto (-21), 3) := by decide +kernel
theorem dX8_canReach_29 : decode cX8_canReach 29 = .ok (.iload_n 3, 1) := by decide +kernel
theorem dX8_canReach_30 : decode cX8_canReach 30 = .ok (.aload_n 0, 1) := by decide +kernel
theorem dX8_canReach_31 : decode cX8_canReach 31 = .ok (.getfield 213, 3) := by decide +kernel
theorem dX8_canReach_34 : decode cX8_canReach 34 = .ok (.if_icmp .lt 7, 3) := by decide +kernel
theorem dX8_canReach_37 : decode cX8_canReach 37 = .ok (.iconst 1, 1) := by decide +kernel
theorem dX8_canReach_38 : decode cX8_canReach 38 = .ok (.goto 4, 3) := by decide +kernel
theorem dX8_canReach_41 : decode cX8_canReach 41 = .ok (.iconst 0, 1) := by decide +kernel
theorem dX8_canReach_42 : decode cX8_canReach 42 = .ok (.ireturn, 1) := by decide +kernel
set_option maxRecDepth 20000 in
theorem ggX8_goesOn_X8_isSum : GoodIn wsX8_goesOn wsX8_isSum := goodIn_r _ [7, 1, 13, 14, 15, 16, 17, 18, 19, 20, 21, 22, 23, 24, 25, 26, 27, 28, 29, 30, 31, 32, 33, 34, 35, 36, 37, 38, 39, 40, 41, 42, 43, 44, 45] (by decide +kernel) (by decide +kernel)
set_option maxRecDepth 20000 in
theorem gX8_goesOn_X8_isSum : GoodIn wsX8_goesOn (wsV RX8 216 RX8 yX8_isSum wsX8_isSum) := goodIn_app (goodIn_of _ (by decide +kernel)) ggX8_goesOn_X8_isSum
set_option maxRecDepth 20000 in
theorem ggX8_goesOn_X8_canReach : GoodIn wsX8_goesOn wsX8_canReach := goodIn_r _ [11, 12, 13, 14, 15, 16, 17, 18, 19, 20, 21, 22, 23, 24, 25, 26, 27, 28, 29, 30, 31, 32, 33, 34, 35, 36, 37, 38, 39, 40, 41, 42, 43, 44, 45] (by decide +kernel) (by decide +kernel)
set_option maxRecDepth 20000 in
theorem gX8_goesOn_X8_canReach : GoodIn wsX8_goesOn (wsV RX8 219 RX8 yX8_canReach wsX8_canReach) := goodIn_app (goodIn_of _ (by decide +kernel)) ggX8_goesOn_X8_canReach
theorem dX8_goesOn_0 : decode cX8_goesOn 0 = .ok (.aload_n 0, 1) := by decide +kernel
theorem dX8_goesOn_1 : decode cX8_goesOn 1 = .ok (.iload_n 1, 1) := by decide +kernel
theorem dX8_goesOn_2 : decode cX8_goesOn 2 = .ok (.iload_n 2, 1) := by decide +kernel
theorem dX8_goesOn_3 : decode cX8_goesOn 3 = .ok (.invokevirtual 216, 3) := by decide +kernel
theorem dX8_goesOn_6 : decode cX8_goesOn 6 = .ok (.ifCond .eq 16, 3) := by decide +kernel
theorem dX8_goesOn_9 : decode cX8_goesOn 9 = .ok (.aload_n 0, 1) := by decide +kernel
theorem dX8_goesOn_10 : decode cX8_goesOn 10 = .ok (.iload_n 1, 1) := by decide +kernel
theorem dX8_goesOn_11 : decode cX8_goesOn 11 = .ok (.iload_n 3, 1) := by decide +kernel
theorem dX8_goesOn_12 : decode cX8_goesOn 12 = .ok (.iconst 1, 1) := by decide +kernel
theorem dX8_goesOn_13 : decode cX8_goesOn 13 = .ok (.isub, 1) := by decide +kernel
theorem dX8_goesOn_14 : decode cX8_goesOn 14 = .ok (.iload_n 2, 1) := by decide +kernel
theorem dX8_goesOn_15 : decode cX8_goesOn 15 = .ok (.isub, 1) := by decide +kernel
theorem dX8_goesOn_16 : decode cX8_goesOn 16 = .ok (.invokevirtual 219, 3) := by decide +kernel
theorem dX8_goesOn_19 : decode cX8_goesOn 19 = .ok (.ifCond .ne 5, 3) := by decide +kernel
theorem dX8_goesOn_22 : decode cX8_goesOn 22 = .ok (.iconst 0, 1) := by decide +kernel
theorem dX8_goesOn_23 : decode cX8_goesOn 23 = .ok (.ireturn, 1) := by decide +kernel
theorem dX8_goesOn_24 : decode cX8_goesOn 24 = .ok (.aload_n 0, 1) := by decide +kernel
theorem dX8_goesOn_25 : decode cX8_goesOn 25 = .ok (.getfield 52, 3) := by decide +kernel
theorem dX8_goesOn_28 : decode cX8_goesOn 28 = .ok (.iload_n 2, 1) := by decide +kernel
theorem dX8_goesOn_29 : decode cX8_goesOn 29 = .ok (.iconst 1, 1) := by decide +kernel
theorem dX8_goesOn_30 : decode cX8_goesOn 30 = .ok (.isub, 1) := by decide +kernel
theorem dX8_goesOn_31 : decode cX8_goesOn 31 = .ok (.iaload, 1) := by decide +kernel
theorem dX8_goesOn_32 : decode cX8_goesOn 32 = .ok (.aload_n 0, 1) := by decide +kernel
theorem dX8_goesOn_33 : decode cX8_goesOn 33 = .ok (.getfield 222, 3) := by decide +kernel
theorem dX8_goesOn_36 : decode cX8_goesOn 36 = .ok (.if_icmp .ge 11, 3) := by decide +kernel
theorem dX8_goesOn_39 : decode cX8_goesOn 39 = .ok (.iload_n 1, 1) := by decide +kernel
theorem dX8_goesOn_40 : decode cX8_goesOn 40 = .ok (.aload_n 0, 1) := by decide +kernel
theorem dX8_goesOn_41 : decode cX8_goesOn 41 = .ok (.getfield 222, 3) := by decide +kernel
theorem dX8_goesOn_44 : decode cX8_goesOn 44 = .ok (.if_icmp .gt 7, 3) := by decide +kernel
theorem dX8_goesOn_47 : decode cX8_goesOn 47 = .ok (.iconst 1, 1) := by decide +kernel
theorem dX8_goesOn_48 : decode cX8_goesOn 48 = .ok (.goto 4, 3) := by decide +kernel
theorem dX8_goesOn_51 : decode cX8_goesOn 51 = .ok (.iconst 0, 1) := by decide +kernel
theorem dX8_goesOn_52 : decode cX8_goesOn 52 = .ok (.ireturn, 1) := by decide +kernel
set_option maxRecDepth 20000 in
theorem ggX8_nextTry_X8_goesOn : GoodIn wsX8_nextTry wsX8_goesOn := goodIn_r _ [7, 1, 8, 9, 10, 11, 6, 12, 13, 14, 15, 16, 2, 17, 18, 19, 20, 21, 22, 23, 24, 25, 26, 27, 28, 29, 30, 31, 32, 33, 34, 35, 36, 37, 38, 39, 40, 41, 42, 43, 44, 45, 46, 47, 48, 49] (by decide +kernel) (by decide +kernel)
set_option maxRecDepth 20000 in
theorem gX8_nextTry_X8_goesOn : GoodIn wsX8_nextTry (wsV RX8 225 RX8 yX8_goesOn wsX8_goesOn) := goodIn_app (goodIn_of _ (by decide +kernel)) ggX8_nextTry_X8_goesOn
theorem dX8_nextTry_0 : decode cX8_nextTry 0 = .ok (.iload_n 1, 1) := by decide +kernel
theorem dX8_nextTry_1 : decode cX8_nextTry 1 = .ok (.iconst 1, 1) := by decide +kernel
theorem dX8_nextTry_2 : decode cX8_nextTry 2 = .ok (.iadd, 1) := by decide +kernel
theorem dX8_nextTry_3 : decode cX8_nextTry 3 = .ok (.istore 4, 2) := by decide +kernel
theorem dX8_nextTry_5 : decode cX8_nextTry 5 = .ok (.iconst 2, 1) := by decide +kernel
theorem dX8_nextTry_6 : decode cX8_nextTry 6 = .ok (.aload_n 0, 1) := by decide +kernel
theorem dX8_nextTry_7 : decode cX8_nextTry 7 = .ok (.getfield 52, 3) := by decide +kernel
theorem dX8_nextTry_10 : decode cX8_nextTry 10 = .ok (.iload_n 2, 1) := by decide +kernel
theorem dX8_nextTry_11 : decode cX8_nextTry 11 = .ok (.iconst 1, 1) := by decide +kernel
theorem dX8_nextTry_12 : decode cX8_nextTry 12 = .ok (.isub, 1) := by decide +kernel
theorem dX8_nextTry_13 : decode cX8_nextTry 13 = .ok (.iaload, 1) := by decide +kernel
theorem dX8_nextTry_14 : decode cX8_nextTry 14 = .ok (.imul, 1) := by decide +kernel
theorem dX8_nextTry_15 : decode cX8_nextTry 15 = .ok (.aload_n 0, 1) := by decide +kernel
theorem dX8_nextTry_16 : decode cX8_nextTry 16 = .ok (.getfield 213, 3) := by decide +kernel
theorem dX8_nextTry_19 : decode cX8_nextTry 19 = .ok (.if_icmp .ge 16, 3) := by decide +kernel
theorem dX8_nextTry_22 : decode cX8_nextTry 22 = .ok (.iconst 2, 1) := by decide +kernel
theorem dX8_nextTry_23 : decode cX8_nextTry 23 = .ok (.aload_n 0, 1) := by decide +kernel
theorem dX8_nextTry_24 : decode cX8_nextTry 24 = .ok (.getfield 52, 3) := by decide +kernel
theorem dX8_nextTry_27 : decode cX8_nextTry 27 = .ok (.iload_n 2, 1) := by decide +kernel
theorem dX8_nextTry_28 : decode cX8_nextTry 28 = .ok (.iconst 1, 1) := by decide +kernel
theorem dX8_nextTry_29 : decode cX8_nextTry 29 = .ok (.isub, 1) := by decide +kernel
theorem dX8_nextTry_30 : decode cX8_nextTry 30 = .ok (.iaload, 1) := by decide +kernel
theorem dX8_nextTry_31 : decode cX8_nextTry 31 = .ok (.imul, 1) := by decide +kernel
theorem dX8_nextTry_32 : decode cX8_nextTry 32 = .ok (.goto 7, 3) := by decide +kernel
theorem dX8_nextTry_35 : decode cX8_nextTry 35 = .ok (.aload_n 0, 1) := by decide +kernel
theorem dX8_nextTry_36 : decode cX8_nextTry 36 = .ok (.getfield 213, 3) := by decide +kernel
theorem dX8_nextTry_39 : decode cX8_nextTry 39 = .ok (.istore 5, 2) := by decide +kernel
theorem dX8_nextTry_41 : decode cX8_nextTry 41 = .ok (.iload 4, 2) := by decide +kernel
theorem dX8_nextTry_43 : decode cX8_nextTry 43 = .ok (.iload 5, 2) := by decide +kernel
theorem dX8_nextTry_45 : decode cX8_nextTry 45 = .ok (.if_icmp .gt 20, 3) := by decide +kernel
theorem dX8_nextTry_48 : decode cX8_nextTry 48 = .ok (.aload_n 0, 1) := by decide +kernel
theorem dX8_nextTry_49 : decode cX8_nextTry 49 = .ok (.iload 4, 2) := by decide +kernel
theorem dX8_nextTry_51 : decode cX8_nextTry 51 = .ok (.iload_n 2, 1) := by decide +kernel
theorem dX8_nextTry_52 : decode cX8_nextTry 52 = .ok (.iload_n 3, 1) := by decide +kernel
theorem dX8_nextTry_53 : decode cX8_nextTry 53 = .ok (.invokevirtual 225, 3) := by decide +kernel
theorem dX8_nextTry_56 : decode cX8_nextTry 56 = .ok (.ifCond .ne 9, 3) := by decide +kernel
theorem dX8_nextTry_59 : decode cX8_nextTry 59 = .ok (.iinc 4 1, 3) := by decide +kernel
theorem dX8_nextTry_62 : decode cX8_nextTry 62 = .ok (.goto (-21), 3) := by decide +kernel
theorem dX8_nextTry_65 : decode cX8_nextTry 65 = .ok (.iload 4, 2) := by decide +kernel
theorem dX8_nextTry_67 : decode cX8_nextTry 67 = .ok (.iload 5, 2) := by decide +kernel
theorem dX8_nextTry_69 : decode cX8_nextTry 69 = .ok (.if_icmp .gt 8, 3) := by decide +kernel
theorem dX8_nextTry_72 : decode cX8_nextTry 72 = .ok (.iload 4, 2) := by decide +kernel
theorem dX8_nextTry_74 : decode cX8_nextTry 74 = .ok (.goto 9, 3) := by decide +kernel
theorem dX8_nextTry_77 : decode cX8_nextTry 77 = .ok (.aload_n 0, 1) := by decide +kernel
theorem dX8_nextTry_78 : decode cX8_nextTry 78 = .ok (.getfield 213, 3) := by decide +kernel
theorem dX8_nextTry_81 : decode cX8_nextTry 81 = .ok (.iconst 1, 1) := by decide +kernel
theorem dX8_nextTry_82 : decode cX8_nextTry 82 = .ok (.iadd, 1) := by decide +kernel
theorem dX8_nextTry_83 : decode cX8_nextTry 83 = .ok (.ireturn, 1) := by decide +kernel
set_option maxRecDepth 20000 in
theorem ggX8_findsChain_X8_nextTry : GoodIn wsX8_findsChain wsX8_nextTry := goodIn_r _ [7, 1, 2, 8, 9, 10, 6, 11, 12, 13, 14, 15, 16, 17, 18, 19, 20, 21, 22, 23, 24, 25, 26, 27, 28, 29, 30, 31, 32, 33, 34, 35, 36, 37, 38, 39, 40, 41, 42, 43, 44, 45, 46, 47, 48, 49, 50, 51, 52, 53] (by decide +kernel) (by decide +kernel)
set_option maxRecDepth 20000 in
theorem gX8_findsChain_X8_nextTry : GoodIn wsX8_findsChain (wsV RX8 228 RX8 yX8_nextTry wsX8_nextTry) := goodIn_app (goodIn_of _ (by decide +kernel)) ggX8_findsChain_X8_nextTry
theorem dX8_findsChain_0 : decode cX8_findsChain 0 = .ok (.aload_n 0, 1) := by decide +kernel
theorem dX8_findsChain_1 : decode cX8_findsChain 1 = .ok (.getfield 52, 3) := by decide +kernel
theorem dX8_findsChain_4 : decode cX8_findsChain 4 = .ok (.iconst 0, 1) := by decide +kernel
theorem dX8_findsChain_5 : decode cX8_findsChain 5 = .ok (.iconst 1, 1) := by decide +kernel
theorem dX8_findsChain_6 : decode cX8_findsChain 6 = .ok (.iastore, 1) := by decide +kernel
theorem dX8_findsChain_7 : decode cX8_findsChain 7 = .ok (.iload_n 1, 1) := by decide +kernel
theorem dX8_findsChain_8 : decode cX8_findsChain 8 = .ok (.iconst 1, 1) := by decide +kernel
theorem dX8_findsChain_9 : decode cX8_findsChain 9 = .ok (.if_icmp .ne 17, 3) := by decide +kernel
theorem dX8_findsChain_12 : decode cX8_findsChain 12 = .ok (.aload_n 0, 1) := by decide +kernel
theorem dX8_findsChain_13 : decode cX8_findsChain 13 = .ok (.getfield 213, 3) := by decide +kernel
theorem dX8_findsChain_16 : decode cX8_findsChain 16 = .ok (.iconst 1, 1) := by decide +kernel
theorem dX8_findsChain_17 : decode cX8_findsChain 17 = .ok (.if_icmp .ne 7, 3) := by decide +kernel
theorem dX8_findsChain_20 : decode cX8_findsChain 20 = .ok (.iconst 1, 1) := by decide +kernel
theorem dX8_findsChain_21 : decode cX8_findsChain 21 = .ok (.goto 4, 3) := by decide +kernel
theorem dX8_findsChain_24 : decode cX8_findsChain 24 = .ok (.iconst 0, 1) := by decide +kernel
theorem dX8_findsChain_25 : decode cX8_findsChain 25 = .ok (.ireturn, 1) := by decide +kernel
theorem dX8_findsChain_26 : decode cX8_findsChain 26 = .ok (.iconst 1, 1) := by decide +kernel
theorem dX8_findsChain_27 : decode cX8_findsChain 27 = .ok (.istore_n 2, 1) := by decide +kernel
theorem dX8_findsChain_28 : decode cX8_findsChain 28 = .ok (.aload_n 0, 1) := by decide +kernel
theorem dX8_findsChain_29 : decode cX8_findsChain 29 = .ok (.getfield 52, 3) := by decide +kernel
theorem dX8_findsChain_32 : decode cX8_findsChain 32 = .ok (.iconst 1, 1) := by decide +kernel
theorem dX8_findsChain_33 : decode cX8_findsChain 33 = .ok (.iconst 1, 1) := by decide +kernel
theorem dX8_findsChain_34 : decode cX8_findsChain 34 = .ok (.iastore, 1) := by decide +kernel
theorem dX8_findsChain_35 : decode cX8_findsChain 35 = .ok (.iload_n 2, 1) := by decide +kernel
theorem dX8_findsChain_36 : decode cX8_findsChain 36 = .ok (.ifCond .le 82, 3) := by decide +kernel
theorem dX8_findsChain_39 : decode cX8_findsChain 39 = .ok (.aload_n 0, 1) := by decide +kernel
theorem dX8_findsChain_40 : decode cX8_findsChain 40 = .ok (.getfield 52, 3) := by decide +kernel
theorem dX8_findsChain_43 : decode cX8_findsChain 43 = .ok (.iload_n 2, 1) := by decide +kernel
theorem dX8_findsChain_44 : decode cX8_findsChain 44 = .ok (.aload_n 0, 1) := by decide +kernel
theorem dX8_findsChain_45 : decode cX8_findsChain 45 = .ok (.aload_n 0, 1) := by decide +kernel
theorem dX8_findsChain_46 : decode cX8_findsChain 46 = .ok (.getfield 52, 3) := by decide +kernel
theorem dX8_findsChain_49 : decode cX8_findsChain 49 = .ok (.iload_n 2, 1) := by decide +kernel
theorem dX8_findsChain_50 : decode cX8_findsChain 50 = .ok (.iaload, 1) := by decide +kernel
theorem dX8_findsChain_51 : decode cX8_findsChain 51 = .ok (.iload_n 2, 1) := by decide +kernel
theorem dX8_findsChain_52 : decode cX8_findsChain 52 = .ok (.iload_n 1, 1) := by decide +kernel
theorem dX8_findsChain_53 : decode cX8_findsChain 53 = .ok (.invokevirtual 228, 3) := by decide +kernel
theorem dX8_findsChain_56 : decode cX8_findsChain 56 = .ok (.iastore, 1) := by decide +kernel
theorem dX8_findsChain_57 : decode cX8_findsChain 57 = .ok (.aload_n 0, 1) := by decide +kernel
theorem dX8_findsChain_58 : decode cX8_findsChain 58 = .ok (.getfield 52, 3) := by decide +kernel
theorem dX8_findsChain_61 : decode cX8_findsChain 61 = .ok (.iload_n 2, 1) := by decide +kernel
theorem dX8_findsChain_62 : decode cX8_findsChain 62 = .ok (.iaload, 1) := by decide +kernel
theorem dX8_findsChain_63 : decode cX8_findsChain 63 = .ok (.aload_n 0, 1) := by decide +kernel
theorem dX8_findsChain_64 : decode cX8_findsChain 64 = .ok (.getfield 213, 3) := by decide +kernel
theorem dX8_findsChain_67 : decode cX8_findsChain 67 = .ok (.if_icmp .le 9, 3) := by decide +kernel
theorem dX8_findsChain_70 : decode cX8_findsChain 70 = .ok (.iinc 2 (-1), 3) := by decide +kernel
theorem dX8_findsChain_73 : decode cX8_findsChain 73 = .ok (.goto (-38), 3) := by decide +kernel
theorem dX8_findsChain_76 : decode cX8_findsChain 76 = .ok (.iload_n 2, 1) := by decide +kernel
theorem dX8_findsChain_77 : decode cX8_findsChain 77 = .ok (.iload_n 1, 1) := by decide +kernel
theorem dX8_findsChain_78 : decode cX8_findsChain 78 = .ok (.iconst 1, 1) := by decide +kernel
theorem dX8_findsChain_79 : decode cX8_findsChain 79 = .ok (.isub, 1) := by decide +kernel
theorem dX8_findsChain_80 : decode cX8_findsChain 80 = .ok (.if_icmp .ne 18, 3) := by decide +kernel
theorem dX8_findsChain_83 : decode cX8_findsChain 83 = .ok (.aload_n 0, 1) := by decide +kernel
theorem dX8_findsChain_84 : decode cX8_findsChain 84 = .ok (.getfield 52, 3) := by decide +kernel
theorem dX8_findsChain_87 : decode cX8_findsChain 87 = .ok (.iload_n 2, 1) := by decide +kernel
theorem dX8_findsChain_88 : decode cX8_findsChain 88 = .ok (.iaload, 1) := by decide +kernel
theorem dX8_findsChain_89 : decode cX8_findsChain 89 = .ok (.aload_n 0, 1) := by decide +kernel
theorem dX8_findsChain_90 : decode cX8_findsChain 90 = .ok (.getfield 213, 3) := by decide +kernel
theorem dX8_findsChain_93 : decode cX8_findsChain 93 = .ok (.if_icmp .ne (-58), 3) := by decide +kernel
theorem dX8_findsChain_96 : decode cX8_findsChain 96 = .ok (.iconst 1, 1) := by decide +kernel
theorem dX8_findsChain_97 : decode cX8_findsChain 97 = .ok (.ireturn, 1) := by decide +kernel
theorem dX8_findsChain_98 : decode cX8_findsChain 98 = .ok (.iinc 2 1, 3) := by decide +kernel
theorem dX8_findsChain_101 : decode cX8_findsChain 101 = .ok (.aload_n 0, 1) := by decide +kernel
theorem dX8_findsChain_102 : decode cX8_findsChain 102 = .ok (.getfield 52, 3) := by decide +kernel
theorem dX8_findsChain_105 : decode cX8_findsChain 105 = .ok (.iload_n 2, 1) := by decide +kernel
theorem dX8_findsChain_106 : decode cX8_findsChain 106 = .ok (.aload_n 0, 1) := by decide +kernel
theorem dX8_findsChain_107 : decode cX8_findsChain 107 = .ok (.getfield 52, 3) := by decide +kernel
theorem dX8_findsChain_110 : decode cX8_findsChain 110 = .ok (.iload_n 2, 1) := by decide +kernel
theorem dX8_findsChain_111 : decode cX8_findsChain 111 = .ok (.iconst 1, 1) := by decide +kernel
theorem dX8_findsChain_112 : decode cX8_findsChain 112 = .ok (.isub, 1) := by decide +kernel
theorem dX8_findsChain_113 : decode cX8_findsChain 113 = .ok (.iaload, 1) := by decide +kernel
theorem dX8_findsChain_114 : decode cX8_findsChain 114 = .ok (.iastore, 1) := by decide +kernel
theorem dX8_findsChain_115 : decode cX8_findsChain 115 = .ok (.goto (-80), 3) := by decide +kernel
theorem dX8_findsChain_118 : decode cX8_findsChain 118 = .ok (.iconst 0, 1) := by decide +kernel
theorem dX8_findsChain_119 : decode cX8_findsChain 119 = .ok (.ireturn, 1) := by decide +kernel
set_option maxRecDepth 20000 in
theorem ggX8_shortest_X8_findsChain : GoodIn wsX8_shortest wsX8_findsChain := goodIn_r _ [7, 8, 2, 9, 10, 11, 6, 12, 13, 14, 15, 16, 1, 17, 18, 19, 20, 21, 22, 23, 24, 25, 26, 27, 28, 29, 30, 31, 32, 33, 34, 35, 36, 37, 38, 39, 40, 41, 42, 43, 44, 45, 46, 47, 48, 49, 50, 51, 52, 53, 54, 55, 56, 57] (by decide +kernel) (by decide +kernel)
set_option maxRecDepth 20000 in
theorem gX8_shortest_X8_findsChain : GoodIn wsX8_shortest (wsV RX8 231 RX8 yX8_findsChain wsX8_findsChain) := goodIn_app (goodIn_of _ (by decide +kernel)) ggX8_shortest_X8_findsChain
theorem dX8_shortest_0 : decode cX8_shortest 0 = .ok (.aload_n 0, 1) := by decide +kernel
theorem dX8_shortest_1 : decode cX8_shortest 1 = .ok (.iload_n 1, 1) := by decide +kernel
theorem dX8_shortest_2 : decode cX8_shortest 2 = .ok (.putfield 222, 3) := by decide +kernel
theorem dX8_shortest_5 : decode cX8_shortest 5 = .ok (.aload_n 0, 1) := by decide +kernel
theorem dX8_shortest_6 : decode cX8_shortest 6 = .ok (.iload_n 2, 1) := by decide +kernel
theorem dX8_shortest_7 : decode cX8_shortest 7 = .ok (.putfield 213, 3) := by decide +kernel
theorem dX8_shortest_10 : decode cX8_shortest 10 = .ok (.iconst 1, 1) := by decide +kernel
theorem dX8_shortest_11 : decode cX8_shortest 11 = .ok (.istore_n 3, 1) := by decide +kernel
theorem dX8_shortest_12 : decode cX8_shortest 12 = .ok (.aload_n 0, 1) := by decide +kernel
theorem dX8_shortest_13 : decode cX8_shortest 13 = .ok (.iload_n 3, 1) := by decide +kernel
theorem dX8_shortest_14 : decode cX8_shortest 14 = .ok (.invokevirtual 231, 3) := by decide +kernel
theorem dX8_shortest_17 : decode cX8_shortest 17 = .ok (.ifCond .ne 9, 3) := by decide +kernel
theorem dX8_shortest_20 : decode cX8_shortest 20 = .ok (.iinc 3 1, 3) := by decide +kernel
theorem dX8_shortest_23 : decode cX8_shortest 23 = .ok (.goto (-11), 3) := by decide +kernel
theorem dX8_shortest_26 : decode cX8_shortest 26 = .ok (.iload_n 3, 1) := by decide +kernel
theorem dX8_shortest_27 : decode cX8_shortest 27 = .ok (.ireturn, 1) := by decide +kernel
set_option maxRecDepth 20000 in
theorem ggX8_fewest_X8_bound : GoodIn wsX8_fewest wsX8_bound := goodIn_r _ [4] (by decide +kernel) (by decide +kernel)
set_option maxRecDepth 20000 in
theorem gX8_fewest_X8_bound : GoodIn wsX8_fewest (va_wsS RX8 120 yX8_bound wsX8_bound) := goodIn_app (goodIn_of _ (by decide +kernel)) ggX8_fewest_X8_bound
set_option maxRecDepth 20000 in
theorem ggX8_fewest_X8_no : GoodIn wsX8_fewest wsX8_no := goodIn_r _ [8, 9, 37, 38, 39, 40, 41, 42, 43, 44, 45, 46, 47, 48, 49, 50, 51, 52, 53, 54, 55, 56, 57, 58, 59, 60, 61, 62, 63, 64, 65, 66, 67, 68, 69] (by decide +kernel) (by decide +kernel)
set_option maxRecDepth 20000 in
theorem gX8_fewest_X8_no : GoodIn wsX8_fewest (wsV RX8 127 RX8 yX8_no wsX8_no) := goodIn_app (goodIn_of _ (by decide +kernel)) ggX8_fewest_X8_no
set_option maxRecDepth 20000 in
theorem ggX8_fewest_X8_shortest : GoodIn wsX8_fewest wsX8_shortest := goodIn_r _ [13, 14, 15, 16, 17, 18, 3, 19, 20, 21, 22, 23, 24, 25, 26, 27, 28, 29, 30, 31, 32, 33, 34, 35, 36, 37, 38, 39, 40, 41, 42, 43, 44, 45, 46, 47, 48, 49, 50, 51, 52, 53, 54, 55, 56, 57, 58, 59, 60, 61, 62, 63, 64, 65, 66, 67, 68, 69] (by decide +kernel) (by decide +kernel)
set_option maxRecDepth 20000 in
theorem gX8_fewest_X8_shortest : GoodIn wsX8_fewest (wsV RX8 234 RX8 yX8_shortest wsX8_shortest) := goodIn_app (goodIn_of _ (by decide +kernel)) ggX8_fewest_X8_shortest
theorem dX8_fewest_0 : decode cX8_fewest 0 = .ok (.iload_n 1, 1) := by decide +kernel
theorem dX8_fewest_1 : decode cX8_fewest 1 = .ok (.iconst 1, 1) := by decide +kernel
theorem dX8_fewest_2 : decode cX8_fewest 2 = .ok (.bipush 100, 2) := by decide +kernel
theorem dX8_fewest_4 : decode cX8_fewest 4 = .ok (.invokestatic 120, 3) := by decide +kernel
theorem dX8_fewest_7 : decode cX8_fewest 7 = .ok (.istore_n 2, 1) := by decide +kernel
theorem dX8_fewest_8 : decode cX8_fewest 8 = .ok (.iload_n 2, 1) := by decide +kernel
theorem dX8_fewest_9 : decode cX8_fewest 9 = .ok (.ifCond .eq 11, 3) := by decide +kernel
theorem dX8_fewest_12 : decode cX8_fewest 12 = .ok (.aload_n 0, 1) := by decide +kernel
theorem dX8_fewest_13 : decode cX8_fewest 13 = .ok (.iload_n 2, 1) := by decide +kernel
theorem dX8_fewest_14 : decode cX8_fewest 14 = .ok (.invokevirtual 127, 3) := by decide +kernel
theorem dX8_fewest_17 : decode cX8_fewest 17 = .ok (.goto 9, 3) := by decide +kernel
theorem dX8_fewest_20 : decode cX8_fewest 20 = .ok (.aload_n 0, 1) := by decide +kernel
theorem dX8_fewest_21 : decode cX8_fewest 21 = .ok (.iload_n 1, 1) := by decide +kernel
theorem dX8_fewest_22 : decode cX8_fewest 22 = .ok (.iload_n 1, 1) := by decide +kernel
theorem dX8_fewest_23 : decode cX8_fewest 23 = .ok (.invokevirtual 234, 3) := by decide +kernel
theorem dX8_fewest_26 : decode cX8_fewest 26 = .ok (.ireturn, 1) := by decide +kernel
set_option maxRecDepth 20000 in
theorem ggX8_chain_X8_no : GoodIn wsX8_chain wsX8_no := goodIn_r _ [6, 7, 34, 35, 36, 37, 38, 39, 40, 41, 42, 43, 44, 45, 46, 47, 48, 49, 50, 51, 52, 53, 54, 55, 56, 57, 58, 59, 60, 61, 62, 63, 64, 65, 66] (by decide +kernel) (by decide +kernel)
set_option maxRecDepth 20000 in
theorem gX8_chain_X8_no : GoodIn wsX8_chain (wsV RX8 127 RX8 yX8_no wsX8_no) := goodIn_app (goodIn_of _ (by decide +kernel)) ggX8_chain_X8_no
set_option maxRecDepth 20000 in
theorem ggX8_chain_X8_shortest : GoodIn wsX8_chain wsX8_shortest := goodIn_r _ [11, 12, 13, 14, 15, 16, 5, 17, 1, 18, 19, 20, 21, 22, 23, 24, 25, 26, 27, 28, 29, 30, 31, 32, 33, 34, 35, 36, 37, 38, 39, 40, 41, 42, 43, 44, 45, 46, 47, 48, 49, 50, 51, 52, 53, 54, 55, 56, 57, 58, 59, 60, 61, 62, 63, 64, 65, 66] (by decide +kernel) (by decide +kernel)
set_option maxRecDepth 20000 in
theorem gX8_chain_X8_shortest : GoodIn wsX8_chain (wsV RX8 234 RX8 yX8_shortest wsX8_shortest) := goodIn_app (goodIn_of _ (by decide +kernel)) ggX8_chain_X8_shortest
theorem dX8_chain_0 : decode cX8_chain 0 = .ok (.iload_n 1, 1) := by decide +kernel
theorem dX8_chain_1 : decode cX8_chain 1 = .ok (.iconst 1, 1) := by decide +kernel
theorem dX8_chain_2 : decode cX8_chain 2 = .ok (.if_icmp .lt 7, 3) := by decide +kernel
theorem dX8_chain_5 : decode cX8_chain 5 = .ok (.iload_n 2, 1) := by decide +kernel
theorem dX8_chain_6 : decode cX8_chain 6 = .ok (.ifCond .ge 8, 3) := by decide +kernel
theorem dX8_chain_9 : decode cX8_chain 9 = .ok (.bipush (-4), 2) := by decide +kernel
theorem dX8_chain_11 : decode cX8_chain 11 = .ok (.goto 15, 3) := by decide +kernel
theorem dX8_chain_14 : decode cX8_chain 14 = .ok (.iload_n 1, 1) := by decide +kernel
theorem dX8_chain_15 : decode cX8_chain 15 = .ok (.bipush 100, 2) := by decide +kernel
theorem dX8_chain_17 : decode cX8_chain 17 = .ok (.if_icmp .le 8, 3) := by decide +kernel
theorem dX8_chain_20 : decode cX8_chain 20 = .ok (.bipush (-6), 2) := by decide +kernel
theorem dX8_chain_22 : decode cX8_chain 22 = .ok (.goto 4, 3) := by decide +kernel
theorem dX8_chain_25 : decode cX8_chain 25 = .ok (.iconst 0, 1) := by decide +kernel
theorem dX8_chain_26 : decode cX8_chain 26 = .ok (.istore_n 3, 1) := by decide +kernel
theorem dX8_chain_27 : decode cX8_chain 27 = .ok (.iload_n 3, 1) := by decide +kernel
theorem dX8_chain_28 : decode cX8_chain 28 = .ok (.ifCond .eq 9, 3) := by decide +kernel
theorem dX8_chain_31 : decode cX8_chain 31 = .ok (.aload_n 0, 1) := by decide +kernel
theorem dX8_chain_32 : decode cX8_chain 32 = .ok (.iload_n 3, 1) := by decide +kernel
theorem dX8_chain_33 : decode cX8_chain 33 = .ok (.invokevirtual 127, 3) := by decide +kernel
theorem dX8_chain_36 : decode cX8_chain 36 = .ok (.ireturn, 1) := by decide +kernel
theorem dX8_chain_37 : decode cX8_chain 37 = .ok (.aload_n 0, 1) := by decide +kernel
theorem dX8_chain_38 : decode cX8_chain 38 = .ok (.iload_n 1, 1) := by decide +kernel
theorem dX8_chain_39 : decode cX8_chain 39 = .ok (.iload_n 1, 1) := by decide +kernel
theorem dX8_chain_40 : decode cX8_chain 40 = .ok (.invokevirtual 234, 3) := by decide +kernel
theorem dX8_chain_43 : decode cX8_chain 43 = .ok (.istore 4, 2) := by decide +kernel
theorem dX8_chain_45 : decode cX8_chain 45 = .ok (.iload_n 2, 1) := by decide +kernel
theorem dX8_chain_46 : decode cX8_chain 46 = .ok (.iload 4, 2) := by decide +kernel
theorem dX8_chain_48 : decode cX8_chain 48 = .ok (.if_icmp .ge 12, 3) := by decide +kernel
theorem dX8_chain_51 : decode cX8_chain 51 = .ok (.aload_n 0, 1) := by decide +kernel
theorem dX8_chain_52 : decode cX8_chain 52 = .ok (.getfield 52, 3) := by decide +kernel
theorem dX8_chain_55 : decode cX8_chain 55 = .ok (.iload_n 2, 1) := by decide +kernel
theorem dX8_chain_56 : decode cX8_chain 56 = .ok (.iaload, 1) := by decide +kernel
theorem dX8_chain_57 : decode cX8_chain 57 = .ok (.goto 5, 3) := by decide +kernel
theorem dX8_chain_60 : decode cX8_chain 60 = .ok (.bipush (-9), 2) := by decide +kernel
theorem dX8_chain_62 : decode cX8_chain 62 = .ok (.ireturn, 1) := by decide +kernel
theorem dX8_halves_0 : decode cX8_halves 0 = .ok (.iconst 0, 1) := by decide +kernel
theorem dX8_halves_1 : decode cX8_halves 1 = .ok (.istore_n 1, 1) := by decide +kernel
theorem dX8_halves_2 : decode cX8_halves 2 = .ok (.iload_n 0, 1) := by decide +kernel
theorem dX8_halves_3 : decode cX8_halves 3 = .ok (.istore_n 2, 1) := by decide +kernel
theorem dX8_halves_4 : decode cX8_halves 4 = .ok (.iload_n 2, 1) := by decide +kernel
theorem dX8_halves_5 : decode cX8_halves 5 = .ok (.iconst 1, 1) := by decide +kernel
theorem dX8_halves_6 : decode cX8_halves 6 = .ok (.if_icmp .le 18, 3) := by decide +kernel
theorem dX8_halves_9 : decode cX8_halves 9 = .ok (.iload_n 1, 1) := by decide +kernel
theorem dX8_halves_10 : decode cX8_halves 10 = .ok (.iconst 1, 1) := by decide +kernel
theorem dX8_halves_11 : decode cX8_halves 11 = .ok (.iload_n 2, 1) := by decide +kernel
theorem dX8_halves_12 : decode cX8_halves 12 = .ok (.iconst 2, 1) := by decide +kernel
theorem dX8_halves_13 : decode cX8_halves 13 = .ok (.irem, 1) := by decide +kernel
theorem dX8_halves_14 : decode cX8_halves 14 = .ok (.iadd, 1) := by decide +kernel
theorem dX8_halves_15 : decode cX8_halves 15 = .ok (.iadd, 1) := by decide +kernel
theorem dX8_halves_16 : decode cX8_halves 16 = .ok (.istore_n 1, 1) := by decide +kernel
theorem dX8_halves_17 : decode cX8_halves 17 = .ok (.iload_n 2, 1) := by decide +kernel
theorem dX8_halves_18 : decode cX8_halves 18 = .ok (.iconst 2, 1) := by decide +kernel
theorem dX8_halves_19 : decode cX8_halves 19 = .ok (.idiv, 1) := by decide +kernel
theorem dX8_halves_20 : decode cX8_halves 20 = .ok (.istore_n 2, 1) := by decide +kernel
theorem dX8_halves_21 : decode cX8_halves 21 = .ok (.goto (-17), 3) := by decide +kernel
theorem dX8_halves_24 : decode cX8_halves 24 = .ok (.iload_n 1, 1) := by decide +kernel
theorem dX8_halves_25 : decode cX8_halves 25 = .ok (.iconst 1, 1) := by decide +kernel
theorem dX8_halves_26 : decode cX8_halves 26 = .ok (.iadd, 1) := by decide +kernel
theorem dX8_halves_27 : decode cX8_halves 27 = .ok (.ireturn, 1) := by decide +kernel
theorem dX8_leastFactor_0 : decode cX8_leastFactor 0 = .ok (.iconst 2, 1) := by decide +kernel
theorem dX8_leastFactor_1 : decode cX8_leastFactor 1 = .ok (.istore_n 1, 1) := by decide +kernel
theorem dX8_leastFactor_2 : decode cX8_leastFactor 2 = .ok (.iload_n 0, 1) := by decide +kernel
theorem dX8_leastFactor_3 : decode cX8_leastFactor 3 = .ok (.iload_n 1, 1) := by decide +kernel
theorem dX8_leastFactor_4 : decode cX8_leastFactor 4 = .ok (.irem, 1) := by decide +kernel
theorem dX8_leastFactor_5 : decode cX8_leastFactor 5 = .ok (.ifCond .eq 9, 3) := by decide +kernel
theorem dX8_leastFactor_8 : decode cX8_leastFactor 8 = .ok (.iinc 1 1, 3) := by decide +kernel
theorem dX8_leastFactor_11 : decode cX8_leastFactor 11 = .ok (.goto (-9), 3) := by decide +kernel
theorem dX8_leastFactor_14 : decode cX8_leastFactor 14 = .ok (.iload_n 1, 1) := by decide +kernel
theorem dX8_leastFactor_15 : decode cX8_leastFactor 15 = .ok (.ireturn, 1) := by decide +kernel
set_option maxRecDepth 20000 in
theorem ggX8_factors_X8_leastFactor : GoodIn wsX8_factors wsX8_leastFactor := goodIn_r _ [5] (by decide +kernel) (by decide +kernel)
set_option maxRecDepth 20000 in
theorem gX8_factors_X8_leastFactor : GoodIn wsX8_factors (va_wsS RX8 238 yX8_leastFactor wsX8_leastFactor) := goodIn_app (goodIn_of _ (by decide +kernel)) ggX8_factors_X8_leastFactor
theorem dX8_factors_0 : decode cX8_factors 0 = .ok (.aload_n 0, 1) := by decide +kernel
theorem dX8_factors_1 : decode cX8_factors 1 = .ok (.getfield 55, 3) := by decide +kernel
theorem dX8_factors_4 : decode cX8_factors 4 = .ok (.iconst 1, 1) := by decide +kernel
theorem dX8_factors_5 : decode cX8_factors 5 = .ok (.iconst 1, 1) := by decide +kernel
theorem dX8_factors_6 : decode cX8_factors 6 = .ok (.iastore, 1) := by decide +kernel
theorem dX8_factors_7 : decode cX8_factors 7 = .ok (.iconst 2, 1) := by decide +kernel
theorem dX8_factors_8 : decode cX8_factors 8 = .ok (.istore_n 2, 1) := by decide +kernel
theorem dX8_factors_9 : decode cX8_factors 9 = .ok (.iload_n 2, 1) := by decide +kernel
theorem dX8_factors_10 : decode cX8_factors 10 = .ok (.iload_n 1, 1) := by decide +kernel
theorem dX8_factors_11 : decode cX8_factors 11 = .ok (.if_icmp .gt 55, 3) := by decide +kernel
theorem dX8_factors_14 : decode cX8_factors 14 = .ok (.iload_n 2, 1) := by decide +kernel
theorem dX8_factors_15 : decode cX8_factors 15 = .ok (.invokestatic 238, 3) := by decide +kernel
theorem dX8_factors_18 : decode cX8_factors 18 = .ok (.istore_n 3, 1) := by decide +kernel
theorem dX8_factors_19 : decode cX8_factors 19 = .ok (.aload_n 0, 1) := by decide +kernel
theorem dX8_factors_20 : decode cX8_factors 20 = .ok (.getfield 55, 3) := by decide +kernel
theorem dX8_factors_23 : decode cX8_factors 23 = .ok (.iload_n 2, 1) := by decide +kernel
theorem dX8_factors_24 : decode cX8_factors 24 = .ok (.iload_n 3, 1) := by decide +kernel
theorem dX8_factors_25 : decode cX8_factors 25 = .ok (.iload_n 2, 1) := by decide +kernel
theorem dX8_factors_26 : decode cX8_factors 26 = .ok (.if_icmp .ne 16, 3) := by decide +kernel
theorem dX8_factors_29 : decode cX8_factors 29 = .ok (.aload_n 0, 1) := by decide +kernel
theorem dX8_factors_30 : decode cX8_factors 30 = .ok (.getfield 55, 3) := by decide +kernel
theorem dX8_factors_33 : decode cX8_factors 33 = .ok (.iload_n 2, 1) := by decide +kernel
theorem dX8_factors_34 : decode cX8_factors 34 = .ok (.iconst 1, 1) := by decide +kernel
theorem dX8_factors_35 : decode cX8_factors 35 = .ok (.isub, 1) := by decide +kernel
theorem dX8_factors_36 : decode cX8_factors 36 = .ok (.iaload, 1) := by decide +kernel
theorem dX8_factors_37 : decode cX8_factors 37 = .ok (.iconst 1, 1) := by decide +kernel
theorem dX8_factors_38 : decode cX8_factors 38 = .ok (.iadd, 1) := by decide +kernel
theorem dX8_factors_39 : decode cX8_factors 39 = .ok (.goto 20, 3) := by decide +kernel
theorem dX8_factors_42 : decode cX8_factors 42 = .ok (.aload_n 0, 1) := by decide +kernel
theorem dX8_factors_43 : decode cX8_factors 43 = .ok (.getfield 55, 3) := by decide +kernel
theorem dX8_factors_46 : decode cX8_factors 46 = .ok (.iload_n 3, 1) := by decide +kernel
theorem dX8_factors_47 : decode cX8_factors 47 = .ok (.iaload, 1) := by decide +kernel
theorem dX8_factors_48 : decode cX8_factors 48 = .ok (.aload_n 0, 1) := by decide +kernel
theorem dX8_factors_49 : decode cX8_factors 49 = .ok (.getfield 55, 3) := by decide +kernel
theorem dX8_factors_52 : decode cX8_factors 52 = .ok (.iload_n 2, 1) := by decide +kernel
theorem dX8_factors_53 : decode cX8_factors 53 = .ok (.iload_n 3, 1) := by decide +kernel
theorem dX8_factors_54 : decode cX8_factors 54 = .ok (.idiv, 1) := by decide +kernel
theorem dX8_factors_55 : decode cX8_factors 55 = .ok (.iaload, 1) := by decide +kernel
theorem dX8_factors_56 : decode cX8_factors 56 = .ok (.iadd, 1) := by decide +kernel
theorem dX8_factors_57 : decode cX8_factors 57 = .ok (.iconst 1, 1) := by decide +kernel
theorem dX8_factors_58 : decode cX8_factors 58 = .ok (.isub, 1) := by decide +kernel
theorem dX8_factors_59 : decode cX8_factors 59 = .ok (.iastore, 1) := by decide +kernel
theorem dX8_factors_60 : decode cX8_factors 60 = .ok (.iinc 2 1, 3) := by decide +kernel
theorem dX8_factors_63 : decode cX8_factors 63 = .ok (.goto (-54), 3) := by decide +kernel
theorem dX8_factors_66 : decode cX8_factors 66 = .ok (.aload_n 0, 1) := by decide +kernel
theorem dX8_factors_67 : decode cX8_factors 67 = .ok (.getfield 55, 3) := by decide +kernel
theorem dX8_factors_70 : decode cX8_factors 70 = .ok (.iload_n 1, 1) := by decide +kernel
theorem dX8_factors_71 : decode cX8_factors 71 = .ok (.iaload, 1) := by decide +kernel
theorem dX8_factors_72 : decode cX8_factors 72 = .ok (.ireturn, 1) := by decide +kernel
set_option maxRecDepth 20000 in
theorem ggX8_way_X8_isIn : GoodIn wsX8_way wsX8_isIn := goodIn_r _ [4] (by decide +kernel) (by decide +kernel)
set_option maxRecDepth 20000 in
theorem gX8_way_X8_isIn : GoodIn wsX8_way (va_wsS RX8 78 yX8_isIn wsX8_isIn) := goodIn_app (goodIn_of _ (by decide +kernel)) ggX8_way_X8_isIn
set_option maxRecDepth 20000 in
theorem ggX8_way_X8_bound : GoodIn wsX8_way wsX8_bound := goodIn_r _ [7] (by decide +kernel) (by decide +kernel)
set_option maxRecDepth 20000 in
theorem gX8_way_X8_bound : GoodIn wsX8_way (va_wsS RX8 120 yX8_bound wsX8_bound) := goodIn_app (goodIn_of _ (by decide +kernel)) ggX8_way_X8_bound
set_option maxRecDepth 20000 in
theorem ggX8_way_X8_no : GoodIn wsX8_way wsX8_no := goodIn_r _ [11, 12, 24, 25, 26, 27, 28, 29, 30, 31, 32, 33, 34, 35, 36, 37, 38, 39, 40, 41, 42, 43, 44, 45, 46, 47, 48, 49, 50, 51, 52, 53, 54, 55, 56] (by decide +kernel) (by decide +kernel)
set_option maxRecDepth 20000 in
theorem gX8_way_X8_no : GoodIn wsX8_way (wsV RX8 127 RX8 yX8_no wsX8_no) := goodIn_app (goodIn_of _ (by decide +kernel)) ggX8_way_X8_no
set_option maxRecDepth 20000 in
theorem ggX8_way_X8_halves : GoodIn wsX8_way wsX8_halves := goodIn_r _ [15] (by decide +kernel) (by decide +kernel)
set_option maxRecDepth 20000 in
theorem gX8_way_X8_halves : GoodIn wsX8_way (va_wsS RX8 241 yX8_halves wsX8_halves) := goodIn_app (goodIn_of _ (by decide +kernel)) ggX8_way_X8_halves
set_option maxRecDepth 20000 in
theorem ggX8_way_X8_factors : GoodIn wsX8_way wsX8_factors := goodIn_r _ [19, 20, 21, 22, 3, 23, 24, 25, 26, 27, 28, 29, 30, 31, 32, 33, 34, 35, 36, 37, 38, 39, 40, 41, 42, 43, 44, 45, 46, 47, 48, 49, 50, 51, 52, 53, 54, 55, 56] (by decide +kernel) (by decide +kernel)
set_option maxRecDepth 20000 in
theorem gX8_way_X8_factors : GoodIn wsX8_way (wsV RX8 244 RX8 yX8_factors wsX8_factors) := goodIn_app (goodIn_of _ (by decide +kernel)) ggX8_way_X8_factors
theorem dX8_way_0 : decode cX8_way 0 = .ok (.iload_n 2, 1) := by decide +kernel
theorem dX8_way_1 : decode cX8_way 1 = .ok (.iconst 0, 1) := by decide +kernel
theorem dX8_way_2 : decode cX8_way 2 = .ok (.iconst 1, 1) := by decide +kernel
theorem dX8_way_3 : decode cX8_way 3 = .ok (.invokestatic 78, 3) := by decide +kernel
theorem dX8_way_6 : decode cX8_way 6 = .ok (.ifCond .ne 8, 3) := by decide +kernel
theorem dX8_way_9 : decode cX8_way 9 = .ok (.bipush (-2), 2) := by decide +kernel
theorem dX8_way_11 : decode cX8_way 11 = .ok (.goto 11, 3) := by decide +kernel
theorem dX8_way_14 : decode cX8_way 14 = .ok (.iload_n 1, 1) := by decide +kernel
theorem dX8_way_15 : decode cX8_way 15 = .ok (.iconst 1, 1) := by decide +kernel
theorem dX8_way_16 : decode cX8_way 16 = .ok (.sipush 300, 3) := by decide +kernel
theorem dX8_way_19 : decode cX8_way 19 = .ok (.invokestatic 120, 3) := by decide +kernel
theorem dX8_way_22 : decode cX8_way 22 = .ok (.istore_n 3, 1) := by decide +kernel
theorem dX8_way_23 : decode cX8_way 23 = .ok (.iload_n 3, 1) := by decide +kernel
theorem dX8_way_24 : decode cX8_way 24 = .ok (.ifCond .eq 11, 3) := by decide +kernel
theorem dX8_way_27 : decode cX8_way 27 = .ok (.aload_n 0, 1) := by decide +kernel
theorem dX8_way_28 : decode cX8_way 28 = .ok (.iload_n 3, 1) := by decide +kernel
theorem dX8_way_29 : decode cX8_way 29 = .ok (.invokevirtual 127, 3) := by decide +kernel
theorem dX8_way_32 : decode cX8_way 32 = .ok (.goto 19, 3) := by decide +kernel
theorem dX8_way_35 : decode cX8_way 35 = .ok (.iload_n 2, 1) := by decide +kernel
theorem dX8_way_36 : decode cX8_way 36 = .ok (.ifCond .ne 10, 3) := by decide +kernel
theorem dX8_way_39 : decode cX8_way 39 = .ok (.iload_n 1, 1) := by decide +kernel
theorem dX8_way_40 : decode cX8_way 40 = .ok (.invokestatic 241, 3) := by decide +kernel
theorem dX8_way_43 : decode cX8_way 43 = .ok (.goto 8, 3) := by decide +kernel
theorem dX8_way_46 : decode cX8_way 46 = .ok (.aload_n 0, 1) := by decide +kernel
theorem dX8_way_47 : decode cX8_way 47 = .ok (.iload_n 1, 1) := by decide +kernel
theorem dX8_way_48 : decode cX8_way 48 = .ok (.invokevirtual 244, 3) := by decide +kernel
theorem dX8_way_51 : decode cX8_way 51 = .ok (.ireturn, 1) := by decide +kernel
set_option maxRecDepth 20000 in
theorem ggX8_both_X8_no : GoodIn wsX8_both wsX8_no := goodIn_r _ [5, 6, 34, 35, 36, 37, 38, 39, 40, 41, 42, 43, 44, 45, 46, 47, 48, 49, 50, 51, 52, 53, 54, 55, 56, 57, 58, 59, 60, 61, 62, 63, 64, 65, 66] (by decide +kernel) (by decide +kernel)
set_option maxRecDepth 20000 in
theorem gX8_both_X8_no : GoodIn wsX8_both (wsV RX8 127 RX8 yX8_no wsX8_no) := goodIn_app (goodIn_of _ (by decide +kernel)) ggX8_both_X8_no
set_option maxRecDepth 20000 in
theorem ggX8_both_X8_shortest : GoodIn wsX8_both wsX8_shortest := goodIn_r _ [10, 11, 12, 13, 14, 15, 4, 16, 17, 18, 19, 20, 21, 22, 23, 24, 25, 26, 27, 28, 29, 30, 31, 32, 33, 34, 35, 36, 37, 38, 39, 40, 41, 42, 43, 44, 45, 46, 47, 48, 49, 50, 51, 52, 53, 54, 55, 56, 57, 58, 59, 60, 61, 62, 63, 64, 65, 66] (by decide +kernel) (by decide +kernel)
set_option maxRecDepth 20000 in
theorem gX8_both_X8_shortest : GoodIn wsX8_both (wsV RX8 234 RX8 yX8_shortest wsX8_shortest) := goodIn_app (goodIn_of _ (by decide +kernel)) ggX8_both_X8_shortest
theorem dX8_both_0 : decode cX8_both 0 = .ok (.iload_n 1, 1) := by decide +kernel
theorem dX8_both_1 : decode cX8_both 1 = .ok (.iconst 1, 1) := by decide +kernel
theorem dX8_both_2 : decode cX8_both 2 = .ok (.if_icmp .lt 8, 3) := by decide +kernel
theorem dX8_both_5 : decode cX8_both 5 = .ok (.iload_n 2, 1) := by decide +kernel
theorem dX8_both_6 : decode cX8_both 6 = .ok (.iconst 1, 1) := by decide +kernel
theorem dX8_both_7 : decode cX8_both 7 = .ok (.if_icmp .ge 8, 3) := by decide +kernel
theorem dX8_both_10 : decode cX8_both 10 = .ok (.bipush (-4), 2) := by decide +kernel
theorem dX8_both_12 : decode cX8_both 12 = .ok (.goto 21, 3) := by decide +kernel
theorem dX8_both_15 : decode cX8_both 15 = .ok (.iload_n 1, 1) := by decide +kernel
theorem dX8_both_16 : decode cX8_both 16 = .ok (.bipush 30, 2) := by decide +kernel
theorem dX8_both_18 : decode cX8_both 18 = .ok (.if_icmp .gt 9, 3) := by decide +kernel
theorem dX8_both_21 : decode cX8_both 21 = .ok (.iload_n 2, 1) := by decide +kernel
theorem dX8_both_22 : decode cX8_both 22 = .ok (.bipush 30, 2) := by decide +kernel
theorem dX8_both_24 : decode cX8_both 24 = .ok (.if_icmp .le 8, 3) := by decide +kernel
theorem dX8_both_27 : decode cX8_both 27 = .ok (.bipush (-6), 2) := by decide +kernel
theorem dX8_both_29 : decode cX8_both 29 = .ok (.goto 4, 3) := by decide +kernel
theorem dX8_both_32 : decode cX8_both 32 = .ok (.iconst 0, 1) := by decide +kernel
theorem dX8_both_33 : decode cX8_both 33 = .ok (.istore_n 3, 1) := by decide +kernel
theorem dX8_both_34 : decode cX8_both 34 = .ok (.iload_n 3, 1) := by decide +kernel
theorem dX8_both_35 : decode cX8_both 35 = .ok (.ifCond .eq 11, 3) := by decide +kernel
theorem dX8_both_38 : decode cX8_both 38 = .ok (.aload_n 0, 1) := by decide +kernel
theorem dX8_both_39 : decode cX8_both 39 = .ok (.iload_n 3, 1) := by decide +kernel
theorem dX8_both_40 : decode cX8_both 40 = .ok (.invokevirtual 127, 3) := by decide +kernel
theorem dX8_both_43 : decode cX8_both 43 = .ok (.goto 23, 3) := by decide +kernel
theorem dX8_both_46 : decode cX8_both 46 = .ok (.iload_n 1, 1) := by decide +kernel
theorem dX8_both_47 : decode cX8_both 47 = .ok (.iload_n 2, 1) := by decide +kernel
theorem dX8_both_48 : decode cX8_both 48 = .ok (.if_icmp .ge 12, 3) := by decide +kernel
theorem dX8_both_51 : decode cX8_both 51 = .ok (.aload_n 0, 1) := by decide +kernel
theorem dX8_both_52 : decode cX8_both 52 = .ok (.iload_n 1, 1) := by decide +kernel
theorem dX8_both_53 : decode cX8_both 53 = .ok (.iload_n 2, 1) := by decide +kernel
theorem dX8_both_54 : decode cX8_both 54 = .ok (.invokevirtual 234, 3) := by decide +kernel
theorem dX8_both_57 : decode cX8_both 57 = .ok (.goto 9, 3) := by decide +kernel
theorem dX8_both_60 : decode cX8_both 60 = .ok (.aload_n 0, 1) := by decide +kernel
theorem dX8_both_61 : decode cX8_both 61 = .ok (.iload_n 2, 1) := by decide +kernel
theorem dX8_both_62 : decode cX8_both 62 = .ok (.iload_n 1, 1) := by decide +kernel
theorem dX8_both_63 : decode cX8_both 63 = .ok (.invokevirtual 234, 3) := by decide +kernel
theorem dX8_both_66 : decode cX8_both 66 = .ok (.ireturn, 1) := by decide +kernel
set_option maxRecDepth 20000 in
theorem ggX8_far_X8_bound : GoodIn wsX8_far wsX8_bound := goodIn_r _ [4] (by decide +kernel) (by decide +kernel)
set_option maxRecDepth 20000 in
theorem gX8_far_X8_bound : GoodIn wsX8_far (va_wsS RX8 120 yX8_bound wsX8_bound) := goodIn_app (goodIn_of _ (by decide +kernel)) ggX8_far_X8_bound
set_option maxRecDepth 20000 in
theorem ggX8_far_X8_no : GoodIn wsX8_far wsX8_no := goodIn_r _ [8, 9, 10, 11, 12, 13, 14, 15, 16, 17, 18, 19, 20, 21, 22, 23, 24, 25, 26, 27, 28, 29, 30, 31, 32, 33, 34, 35, 36, 37, 38, 39, 40, 41, 42] (by decide +kernel) (by decide +kernel)
set_option maxRecDepth 20000 in
theorem gX8_far_X8_no : GoodIn wsX8_far (wsV RX8 127 RX8 yX8_no wsX8_no) := goodIn_app (goodIn_of _ (by decide +kernel)) ggX8_far_X8_no
theorem dX8_far_0 : decode cX8_far 0 = .ok (.iload_n 1, 1) := by decide +kernel
theorem dX8_far_1 : decode cX8_far 1 = .ok (.iconst 1, 1) := by decide +kernel
theorem dX8_far_2 : decode cX8_far 2 = .ok (.bipush 12, 2) := by decide +kernel
theorem dX8_far_4 : decode cX8_far 4 = .ok (.invokestatic 120, 3) := by decide +kernel
theorem dX8_far_7 : decode cX8_far 7 = .ok (.istore_n 2, 1) := by decide +kernel
theorem dX8_far_8 : decode cX8_far 8 = .ok (.iload_n 2, 1) := by decide +kernel
theorem dX8_far_9 : decode cX8_far 9 = .ok (.ifCond .eq 11, 3) := by decide +kernel
theorem dX8_far_12 : decode cX8_far 12 = .ok (.aload_n 0, 1) := by decide +kernel
theorem dX8_far_13 : decode cX8_far 13 = .ok (.iload_n 2, 1) := by decide +kernel
theorem dX8_far_14 : decode cX8_far 14 = .ok (.invokevirtual 127, 3) := by decide +kernel
theorem dX8_far_17 : decode cX8_far 17 = .ok (.goto 8, 3) := by decide +kernel
theorem dX8_far_20 : decode cX8_far 20 = .ok (.iconst 1, 1) := by decide +kernel
theorem dX8_far_21 : decode cX8_far 21 = .ok (.iload_n 1, 1) := by decide +kernel
theorem dX8_far_22 : decode cX8_far 22 = .ok (.iconst 1, 1) := by decide +kernel
theorem dX8_far_23 : decode cX8_far 23 = .ok (.isub, 1) := by decide +kernel
theorem dX8_far_24 : decode cX8_far 24 = .ok (.ishl, 1) := by decide +kernel
theorem dX8_far_25 : decode cX8_far 25 = .ok (.ireturn, 1) := by decide +kernel
set_option maxRecDepth 20000 in
theorem ggX8_isWithin_X8_findsChain : GoodIn wsX8_isWithin wsX8_findsChain := goodIn_r _ [7, 8, 2, 9, 10, 11, 6, 12, 13, 14, 15, 16, 1, 17, 18, 19, 20, 21, 22, 23, 24, 25, 26, 27, 28, 29, 30, 31, 32, 33, 34, 35, 36, 37, 38, 39, 40, 41, 42, 43, 44, 45, 46, 47, 48, 49, 50, 51, 52, 53, 54, 55, 56, 57] (by decide +kernel) (by decide +kernel)
set_option maxRecDepth 20000 in
theorem gX8_isWithin_X8_findsChain : GoodIn wsX8_isWithin (wsV RX8 231 RX8 yX8_findsChain wsX8_findsChain) := goodIn_app (goodIn_of _ (by decide +kernel)) ggX8_isWithin_X8_findsChain
theorem dX8_isWithin_0 : decode cX8_isWithin 0 = .ok (.aload_n 0, 1) := by decide +kernel
theorem dX8_isWithin_1 : decode cX8_isWithin 1 = .ok (.iload_n 1, 1) := by decide +kernel
theorem dX8_isWithin_2 : decode cX8_isWithin 2 = .ok (.putfield 222, 3) := by decide +kernel
theorem dX8_isWithin_5 : decode cX8_isWithin 5 = .ok (.aload_n 0, 1) := by decide +kernel
theorem dX8_isWithin_6 : decode cX8_isWithin 6 = .ok (.iload_n 1, 1) := by decide +kernel
theorem dX8_isWithin_7 : decode cX8_isWithin 7 = .ok (.putfield 213, 3) := by decide +kernel
theorem dX8_isWithin_10 : decode cX8_isWithin 10 = .ok (.iconst 1, 1) := by decide +kernel
theorem dX8_isWithin_11 : decode cX8_isWithin 11 = .ok (.istore_n 3, 1) := by decide +kernel
theorem dX8_isWithin_12 : decode cX8_isWithin 12 = .ok (.iload_n 3, 1) := by decide +kernel
theorem dX8_isWithin_13 : decode cX8_isWithin 13 = .ok (.iload_n 2, 1) := by decide +kernel
theorem dX8_isWithin_14 : decode cX8_isWithin 14 = .ok (.if_icmp .gt 19, 3) := by decide +kernel
theorem dX8_isWithin_17 : decode cX8_isWithin 17 = .ok (.aload_n 0, 1) := by decide +kernel
theorem dX8_isWithin_18 : decode cX8_isWithin 18 = .ok (.iload_n 3, 1) := by decide +kernel
theorem dX8_isWithin_19 : decode cX8_isWithin 19 = .ok (.invokevirtual 231, 3) := by decide +kernel
theorem dX8_isWithin_22 : decode cX8_isWithin 22 = .ok (.ifCond .eq 5, 3) := by decide +kernel
theorem dX8_isWithin_25 : decode cX8_isWithin 25 = .ok (.iconst 1, 1) := by decide +kernel
theorem dX8_isWithin_26 : decode cX8_isWithin 26 = .ok (.ireturn, 1) := by decide +kernel
theorem dX8_isWithin_27 : decode cX8_isWithin 27 = .ok (.iinc 3 1, 3) := by decide +kernel
theorem dX8_isWithin_30 : decode cX8_isWithin 30 = .ok (.goto (-18), 3) := by decide +kernel
theorem dX8_isWithin_33 : decode cX8_isWithin 33 = .ok (.iconst 0, 1) := by decide +kernel
theorem dX8_isWithin_34 : decode cX8_isWithin 34 = .ok (.ireturn, 1) := by decide +kernel
set_option maxRecDepth 20000 in
theorem ggX8_can_X8_isIn : GoodIn wsX8_can wsX8_isIn := goodIn_r _ [4] (by decide +kernel) (by decide +kernel)
set_option maxRecDepth 20000 in
theorem gX8_can_X8_isIn : GoodIn wsX8_can (va_wsS RX8 78 yX8_isIn wsX8_isIn) := goodIn_app (goodIn_of _ (by decide +kernel)) ggX8_can_X8_isIn
set_option maxRecDepth 20000 in
theorem ggX8_can_X8_bound : GoodIn wsX8_can wsX8_bound := goodIn_r _ [7] (by decide +kernel) (by decide +kernel)
set_option maxRecDepth 20000 in
theorem gX8_can_X8_bound : GoodIn wsX8_can (va_wsS RX8 120 yX8_bound wsX8_bound) := goodIn_app (goodIn_of _ (by decide +kernel)) ggX8_can_X8_bound
set_option maxRecDepth 20000 in
theorem ggX8_can_X8_no : GoodIn wsX8_can wsX8_no := goodIn_r _ [11, 12, 40, 41, 42, 43, 44, 45, 46, 47, 48, 49, 50, 51, 52, 53, 54, 55, 56, 57, 58, 59, 60, 61, 62, 63, 64, 65, 66, 67, 68, 69, 70, 71, 72] (by decide +kernel) (by decide +kernel)
set_option maxRecDepth 20000 in
theorem gX8_can_X8_no : GoodIn wsX8_can (wsV RX8 127 RX8 yX8_no wsX8_no) := goodIn_app (goodIn_of _ (by decide +kernel)) ggX8_can_X8_no
set_option maxRecDepth 20000 in
theorem ggX8_can_X8_isWithin : GoodIn wsX8_can wsX8_isWithin := goodIn_r _ [16, 17, 18, 19, 20, 21, 3, 22, 23, 24, 25, 26, 27, 28, 29, 30, 31, 32, 33, 34, 35, 36, 37, 38, 39, 40, 41, 42, 43, 44, 45, 46, 47, 48, 49, 50, 51, 52, 53, 54, 55, 56, 57, 58, 59, 60, 61, 62, 63, 64, 65, 66, 67, 68, 69, 70, 71, 72] (by decide +kernel) (by decide +kernel)
set_option maxRecDepth 20000 in
theorem gX8_can_X8_isWithin : GoodIn wsX8_can (wsV RX8 247 RX8 yX8_isWithin wsX8_isWithin) := goodIn_app (goodIn_of _ (by decide +kernel)) ggX8_can_X8_isWithin
theorem dX8_can_0 : decode cX8_can 0 = .ok (.iload_n 2, 1) := by decide +kernel
theorem dX8_can_1 : decode cX8_can 1 = .ok (.iconst 0, 1) := by decide +kernel
theorem dX8_can_2 : decode cX8_can 2 = .ok (.iconst 1, 1) := by decide +kernel
theorem dX8_can_3 : decode cX8_can 3 = .ok (.invokestatic 78, 3) := by decide +kernel
theorem dX8_can_6 : decode cX8_can 6 = .ok (.ifCond .ne 8, 3) := by decide +kernel
theorem dX8_can_9 : decode cX8_can 9 = .ok (.bipush (-2), 2) := by decide +kernel
theorem dX8_can_11 : decode cX8_can 11 = .ok (.goto 10, 3) := by decide +kernel
theorem dX8_can_14 : decode cX8_can 14 = .ok (.iload_n 1, 1) := by decide +kernel
theorem dX8_can_15 : decode cX8_can 15 = .ok (.iconst 1, 1) := by decide +kernel
theorem dX8_can_16 : decode cX8_can 16 = .ok (.bipush 7, 2) := by decide +kernel
theorem dX8_can_18 : decode cX8_can 18 = .ok (.invokestatic 120, 3) := by decide +kernel
theorem dX8_can_21 : decode cX8_can 21 = .ok (.istore_n 3, 1) := by decide +kernel
theorem dX8_can_22 : decode cX8_can 22 = .ok (.iload_n 3, 1) := by decide +kernel
theorem dX8_can_23 : decode cX8_can 23 = .ok (.ifCond .eq 9, 3) := by decide +kernel
theorem dX8_can_26 : decode cX8_can 26 = .ok (.aload_n 0, 1) := by decide +kernel
theorem dX8_can_27 : decode cX8_can 27 = .ok (.iload_n 3, 1) := by decide +kernel
theorem dX8_can_28 : decode cX8_can 28 = .ok (.invokevirtual 127, 3) := by decide +kernel
theorem dX8_can_31 : decode cX8_can 31 = .ok (.ireturn, 1) := by decide +kernel
theorem dX8_can_32 : decode cX8_can 32 = .ok (.iconst 0, 1) := by decide +kernel
theorem dX8_can_33 : decode cX8_can 33 = .ok (.istore 4, 2) := by decide +kernel
theorem dX8_can_35 : decode cX8_can 35 = .ok (.iconst 0, 1) := by decide +kernel
theorem dX8_can_36 : decode cX8_can 36 = .ok (.istore 5, 2) := by decide +kernel
theorem dX8_can_38 : decode cX8_can 38 = .ok (.iconst 1, 1) := by decide +kernel
theorem dX8_can_39 : decode cX8_can 39 = .ok (.istore 6, 2) := by decide +kernel
theorem dX8_can_41 : decode cX8_can 41 = .ok (.iload 6, 2) := by decide +kernel
theorem dX8_can_43 : decode cX8_can 43 = .ok (.bipush 65, 2) := by decide +kernel
theorem dX8_can_45 : decode cX8_can 45 = .ok (.if_icmp .gt 47, 3) := by decide +kernel
theorem dX8_can_48 : decode cX8_can 48 = .ok (.aload_n 0, 1) := by decide +kernel
theorem dX8_can_49 : decode cX8_can 49 = .ok (.iload 6, 2) := by decide +kernel
theorem dX8_can_51 : decode cX8_can 51 = .ok (.iload_n 1, 1) := by decide +kernel
theorem dX8_can_52 : decode cX8_can 52 = .ok (.invokevirtual 247, 3) := by decide +kernel
theorem dX8_can_55 : decode cX8_can 55 = .ok (.istore 7, 2) := by decide +kernel
theorem dX8_can_57 : decode cX8_can 57 = .ok (.iload 4, 2) := by decide +kernel
theorem dX8_can_59 : decode cX8_can 59 = .ok (.iload 7, 2) := by decide +kernel
theorem dX8_can_61 : decode cX8_can 61 = .ok (.ifCond .eq 7, 3) := by decide +kernel
theorem dX8_can_64 : decode cX8_can 64 = .ok (.iconst 1, 1) := by decide +kernel
theorem dX8_can_65 : decode cX8_can 65 = .ok (.goto 4, 3) := by decide +kernel
theorem dX8_can_68 : decode cX8_can 68 = .ok (.iconst 0, 1) := by decide +kernel
theorem dX8_can_69 : decode cX8_can 69 = .ok (.iadd, 1) := by decide +kernel
theorem dX8_can_70 : decode cX8_can 70 = .ok (.istore 4, 2) := by decide +kernel
theorem dX8_can_72 : decode cX8_can 72 = .ok (.iload 7, 2) := by decide +kernel
theorem dX8_can_74 : decode cX8_can 74 = .ok (.ifCond .ne 12, 3) := by decide +kernel
theorem dX8_can_77 : decode cX8_can 77 = .ok (.iload 5, 2) := by decide +kernel
theorem dX8_can_79 : decode cX8_can 79 = .ok (.ifCond .ne 7, 3) := by decide +kernel
theorem dX8_can_82 : decode cX8_can 82 = .ok (.iload 6, 2) := by decide +kernel
theorem dX8_can_84 : decode cX8_can 84 = .ok (.istore 5, 2) := by decide +kernel
theorem dX8_can_86 : decode cX8_can 86 = .ok (.iinc 6 1, 3) := by decide +kernel
theorem dX8_can_89 : decode cX8_can 89 = .ok (.goto (-48), 3) := by decide +kernel
theorem dX8_can_92 : decode cX8_can 92 = .ok (.iload_n 2, 1) := by decide +kernel
theorem dX8_can_93 : decode cX8_can 93 = .ok (.ifCond .ne 8, 3) := by decide +kernel
theorem dX8_can_96 : decode cX8_can 96 = .ok (.iload 4, 2) := by decide +kernel
theorem dX8_can_98 : decode cX8_can 98 = .ok (.goto 5, 3) := by decide +kernel
theorem dX8_can_101 : decode cX8_can 101 = .ok (.iload 5, 2) := by decide +kernel
theorem dX8_can_103 : decode cX8_can 103 = .ok (.ireturn, 1) := by decide +kernel
set_option maxRecDepth 20000 in
theorem ggX8_comesToIn1_X8_canBe : GoodIn wsX8_comesToIn1 wsX8_canBe := goodIn_r _ [7, 8, 9, 10, 6, 11, 12, 13, 14, 15, 16, 1, 17, 18, 19, 20, 21, 22, 23, 2, 24, 25, 26, 27, 28, 29, 30, 31, 32, 33, 34, 35, 36, 37, 38, 39, 40, 41, 42, 43, 44, 45, 46, 47, 48, 49, 50, 51, 52, 53, 54, 55, 56, 57, 58, 59, 60, 61, 62, 63, 64, 65, 66, 67, 68, 69, 70, 71, 72, 73, 74, 75] (by decide +kernel) (by decide +kernel)
set_option maxRecDepth 20000 in
theorem gX8_comesToIn1_X8_canBe : GoodIn wsX8_comesToIn1 (wsV RX8 201 RX8 yX8_canBe wsX8_canBe) := goodIn_app (goodIn_of _ (by decide +kernel)) ggX8_comesToIn1_X8_canBe
theorem dX8_comesToIn1_0 : decode cX8_comesToIn1 0 = .ok (.iconst 0, 1) := by decide +kernel
theorem dX8_comesToIn1_1 : decode cX8_comesToIn1 1 = .ok (.istore_n 2, 1) := by decide +kernel
theorem dX8_comesToIn1_2 : decode cX8_comesToIn1 2 = .ok (.iload_n 2, 1) := by decide +kernel
theorem dX8_comesToIn1_3 : decode cX8_comesToIn1 3 = .ok (.aload_n 0, 1) := by decide +kernel
theorem dX8_comesToIn1_4 : decode cX8_comesToIn1 4 = .ok (.getfield 70, 3) := by decide +kernel
theorem dX8_comesToIn1_7 : decode cX8_comesToIn1 7 = .ok (.if_icmp .ge 62, 3) := by decide +kernel
theorem dX8_comesToIn1_10 : decode cX8_comesToIn1 10 = .ok (.aload_n 0, 1) := by decide +kernel
theorem dX8_comesToIn1_11 : decode cX8_comesToIn1 11 = .ok (.getfield 70, 3) := by decide +kernel
theorem dX8_comesToIn1_14 : decode cX8_comesToIn1 14 = .ok (.bipush 12, 2) := by decide +kernel
theorem dX8_comesToIn1_16 : decode cX8_comesToIn1 16 = .ok (.if_icmp .ge 53, 3) := by decide +kernel
theorem dX8_comesToIn1_19 : decode cX8_comesToIn1 19 = .ok (.iload_n 2, 1) := by decide +kernel
theorem dX8_comesToIn1_20 : decode cX8_comesToIn1 20 = .ok (.istore_n 3, 1) := by decide +kernel
theorem dX8_comesToIn1_21 : decode cX8_comesToIn1 21 = .ok (.iload_n 3, 1) := by decide +kernel
theorem dX8_comesToIn1_22 : decode cX8_comesToIn1 22 = .ok (.aload_n 0, 1) := by decide +kernel
theorem dX8_comesToIn1_23 : decode cX8_comesToIn1 23 = .ok (.getfield 70, 3) := by decide +kernel
theorem dX8_comesToIn1_26 : decode cX8_comesToIn1 26 = .ok (.if_icmp .ge 37, 3) := by decide +kernel
theorem dX8_comesToIn1_29 : decode cX8_comesToIn1 29 = .ok (.aload_n 0, 1) := by decide +kernel
theorem dX8_comesToIn1_30 : decode cX8_comesToIn1 30 = .ok (.getfield 13, 3) := by decide +kernel
theorem dX8_comesToIn1_33 : decode cX8_comesToIn1 33 = .ok (.iload_n 2, 1) := by decide +kernel
theorem dX8_comesToIn1_34 : decode cX8_comesToIn1 34 = .ok (.iaload, 1) := by decide +kernel
theorem dX8_comesToIn1_35 : decode cX8_comesToIn1 35 = .ok (.aload_n 0, 1) := by decide +kernel
theorem dX8_comesToIn1_36 : decode cX8_comesToIn1 36 = .ok (.getfield 13, 3) := by decide +kernel
theorem dX8_comesToIn1_39 : decode cX8_comesToIn1 39 = .ok (.iload_n 3, 1) := by decide +kernel
theorem dX8_comesToIn1_40 : decode cX8_comesToIn1 40 = .ok (.iaload, 1) := by decide +kernel
theorem dX8_comesToIn1_41 : decode cX8_comesToIn1 41 = .ok (.iadd, 1) := by decide +kernel
theorem dX8_comesToIn1_42 : decode cX8_comesToIn1 42 = .ok (.iload_n 1, 1) := by decide +kernel
theorem dX8_comesToIn1_43 : decode cX8_comesToIn1 43 = .ok (.if_icmp .ne 14, 3) := by decide +kernel
theorem dX8_comesToIn1_46 : decode cX8_comesToIn1 46 = .ok (.aload_n 0, 1) := by decide +kernel
theorem dX8_comesToIn1_47 : decode cX8_comesToIn1 47 = .ok (.iload_n 2, 1) := by decide +kernel
theorem dX8_comesToIn1_48 : decode cX8_comesToIn1 48 = .ok (.iload_n 3, 1) := by decide +kernel
theorem dX8_comesToIn1_49 : decode cX8_comesToIn1 49 = .ok (.invokevirtual 201, 3) := by decide +kernel
theorem dX8_comesToIn1_52 : decode cX8_comesToIn1 52 = .ok (.ifCond .eq 5, 3) := by decide +kernel
theorem dX8_comesToIn1_55 : decode cX8_comesToIn1 55 = .ok (.iconst 1, 1) := by decide +kernel
theorem dX8_comesToIn1_56 : decode cX8_comesToIn1 56 = .ok (.ireturn, 1) := by decide +kernel
theorem dX8_comesToIn1_57 : decode cX8_comesToIn1 57 = .ok (.iinc 3 1, 3) := by decide +kernel
theorem dX8_comesToIn1_60 : decode cX8_comesToIn1 60 = .ok (.goto (-39), 3) := by decide +kernel
theorem dX8_comesToIn1_63 : decode cX8_comesToIn1 63 = .ok (.iinc 2 1, 3) := by decide +kernel
theorem dX8_comesToIn1_66 : decode cX8_comesToIn1 66 = .ok (.goto (-64), 3) := by decide +kernel
theorem dX8_comesToIn1_69 : decode cX8_comesToIn1 69 = .ok (.iconst 0, 1) := by decide +kernel
theorem dX8_comesToIn1_70 : decode cX8_comesToIn1 70 = .ok (.ireturn, 1) := by decide +kernel
set_option maxRecDepth 20000 in
theorem ggX8_comesToIn2_X8_canBe : GoodIn wsX8_comesToIn2 wsX8_canBe := goodIn_r _ [6, 7, 8, 9, 5, 10, 11, 12, 13, 14, 15, 1, 16, 17, 18, 19, 20, 21, 22, 23, 24, 25, 26, 27, 28, 29, 30, 31, 32, 33, 34, 35, 36, 37, 38, 39, 40, 41, 42, 83, 84, 85, 86, 87, 88, 89, 90, 91, 92, 93, 94, 95, 96, 97, 98, 99, 100, 101, 102, 103, 104, 105, 106, 107, 108, 109, 110, 111, 112, 113, 114, 115] (by decide +kernel) (by decide +kernel)
set_option maxRecDepth 20000 in
theorem gX8_comesToIn2_X8_canBe : GoodIn wsX8_comesToIn2 (wsV RX8 201 RX8 yX8_canBe wsX8_canBe) := goodIn_app (goodIn_of _ (by decide +kernel)) ggX8_comesToIn2_X8_canBe
set_option maxRecDepth 20000 in
theorem ggX8_comesToIn2_X8_passesAll : GoodIn wsX8_comesToIn2 wsX8_passesAll := goodIn_r _ [46, 47, 48, 23, 28, 49, 50, 51, 11, 29, 52, 1, 38, 53, 54, 55, 56, 5, 57, 58, 59, 60, 61, 62, 83, 84, 85, 86, 87, 88, 89, 90, 91, 92, 93, 94, 95, 96, 97, 98, 99, 100, 101, 102, 103, 104, 105, 106, 107, 108, 109, 110, 111, 112, 113, 114, 115] (by decide +kernel) (by decide +kernel)
set_option maxRecDepth 20000 in
theorem gX8_comesToIn2_X8_passesAll : GoodIn wsX8_comesToIn2 (wsV RX8 177 RX8 yX8_passesAll wsX8_passesAll) := goodIn_app (goodIn_of _ (by decide +kernel)) ggX8_comesToIn2_X8_passesAll
set_option maxRecDepth 20000 in
theorem ggX8_comesToIn2_X8_builds : GoodIn wsX8_comesToIn2 wsX8_builds := goodIn_r _ [66, 23, 67, 68, 69, 5, 70, 29, 52, 28, 11, 71, 72, 73, 74, 49, 75, 76, 77, 78, 1, 50, 51, 83, 84, 85, 86, 87, 88, 89, 90, 91, 92, 93, 94, 95, 96, 97, 98, 99, 100, 101, 102, 103, 104, 105, 106, 107, 108, 109, 110, 111, 112, 113, 114, 115] (by decide +kernel) (by decide +kernel)
set_option maxRecDepth 20000 in
theorem gX8_comesToIn2_X8_builds : GoodIn wsX8_comesToIn2 (wsV RX8 157 RX8 yX8_builds wsX8_builds) := goodIn_app (goodIn_of _ (by decide +kernel)) ggX8_comesToIn2_X8_builds
set_option maxRecDepth 20000 in
theorem ggX8_comesToIn2_X8_comesToIn1 : GoodIn wsX8_comesToIn2 wsX8_comesToIn1 := goodIn_r _ [82, 1, 23, 2, 3, 4, 5, 6, 7, 8, 9, 10, 11, 12, 13, 14, 15, 16, 17, 18, 19, 20, 21, 22, 24, 25, 26, 27, 28, 29, 30, 31, 32, 33, 34, 35, 36, 37, 38, 39, 40, 41, 42, 83, 84, 85, 86, 87, 88, 89, 90, 91, 92, 93, 94, 95, 96, 97, 98, 99, 100, 101, 102, 103, 104, 105, 106, 107, 108, 109, 110, 111, 112, 113, 114, 115] (by decide +kernel) (by decide +kernel)
set_option maxRecDepth 20000 in
theorem gX8_comesToIn2_X8_comesToIn1 : GoodIn wsX8_comesToIn2 (wsV RX8 250 RX8 yX8_comesToIn1 wsX8_comesToIn1) := goodIn_app (goodIn_of _ (by decide +kernel)) ggX8_comesToIn2_X8_comesToIn1
theorem dX8_comesToIn2_0 : decode cX8_comesToIn2 0 = .ok (.iconst 0, 1) := by decide +kernel
theorem dX8_comesToIn2_1 : decode cX8_comesToIn2 1 = .ok (.istore_n 2, 1) := by decide +kernel
theorem dX8_comesToIn2_2 : decode cX8_comesToIn2 2 = .ok (.aload_n 0, 1) := by decide +kernel
theorem dX8_comesToIn2_3 : decode cX8_comesToIn2 3 = .ok (.getfield 70, 3) := by decide +kernel
theorem dX8_comesToIn2_6 : decode cX8_comesToIn2 6 = .ok (.istore_n 3, 1) := by decide +kernel
theorem dX8_comesToIn2_7 : decode cX8_comesToIn2 7 = .ok (.iconst 0, 1) := by decide +kernel
theorem dX8_comesToIn2_8 : decode cX8_comesToIn2 8 = .ok (.istore 4, 2) := by decide +kernel
theorem dX8_comesToIn2_10 : decode cX8_comesToIn2 10 = .ok (.iload 4, 2) := by decide +kernel
theorem dX8_comesToIn2_12 : decode cX8_comesToIn2 12 = .ok (.iload_n 3, 1) := by decide +kernel
theorem dX8_comesToIn2_13 : decode cX8_comesToIn2 13 = .ok (.if_icmp .ge 81, 3) := by decide +kernel
theorem dX8_comesToIn2_16 : decode cX8_comesToIn2 16 = .ok (.iload_n 3, 1) := by decide +kernel
theorem dX8_comesToIn2_17 : decode cX8_comesToIn2 17 = .ok (.bipush 12, 2) := by decide +kernel
theorem dX8_comesToIn2_19 : decode cX8_comesToIn2 19 = .ok (.if_icmp .ge 75, 3) := by decide +kernel
theorem dX8_comesToIn2_22 : decode cX8_comesToIn2 22 = .ok (.iload_n 2, 1) := by decide +kernel
theorem dX8_comesToIn2_23 : decode cX8_comesToIn2 23 = .ok (.ifCond .ne 71, 3) := by decide +kernel
theorem dX8_comesToIn2_26 : decode cX8_comesToIn2 26 = .ok (.iload 4, 2) := by decide +kernel
theorem dX8_comesToIn2_28 : decode cX8_comesToIn2 28 = .ok (.istore 5, 2) := by decide +kernel
theorem dX8_comesToIn2_30 : decode cX8_comesToIn2 30 = .ok (.iload 5, 2) := by decide +kernel
theorem dX8_comesToIn2_32 : decode cX8_comesToIn2 32 = .ok (.iload_n 3, 1) := by decide +kernel
theorem dX8_comesToIn2_33 : decode cX8_comesToIn2 33 = .ok (.if_icmp .ge 55, 3) := by decide +kernel
theorem dX8_comesToIn2_36 : decode cX8_comesToIn2 36 = .ok (.iload_n 2, 1) := by decide +kernel
theorem dX8_comesToIn2_37 : decode cX8_comesToIn2 37 = .ok (.ifCond .ne 51, 3) := by decide +kernel
theorem dX8_comesToIn2_40 : decode cX8_comesToIn2 40 = .ok (.aload_n 0, 1) := by decide +kernel
theorem dX8_comesToIn2_41 : decode cX8_comesToIn2 41 = .ok (.iload 4, 2) := by decide +kernel
theorem dX8_comesToIn2_43 : decode cX8_comesToIn2 43 = .ok (.iload 5, 2) := by decide +kernel
theorem dX8_comesToIn2_45 : decode cX8_comesToIn2 45 = .ok (.invokevirtual 201, 3) := by decide +kernel
theorem dX8_comesToIn2_48 : decode cX8_comesToIn2 48 = .ok (.ifCond .ne 6, 3) := by decide +kernel
theorem dX8_comesToIn2_51 : decode cX8_comesToIn2 51 = .ok (.goto 31, 3) := by decide +kernel
theorem dX8_comesToIn2_54 : decode cX8_comesToIn2 54 = .ok (.aload_n 0, 1) := by decide +kernel
theorem dX8_comesToIn2_55 : decode cX8_comesToIn2 55 = .ok (.iconst 2, 1) := by decide +kernel
theorem dX8_comesToIn2_56 : decode cX8_comesToIn2 56 = .ok (.iconst 1, 1) := by decide +kernel
theorem dX8_comesToIn2_57 : decode cX8_comesToIn2 57 = .ok (.invokevirtual 177, 3) := by decide +kernel
theorem dX8_comesToIn2_60 : decode cX8_comesToIn2 60 = .ok (.aload_n 0, 1) := by decide +kernel
theorem dX8_comesToIn2_61 : decode cX8_comesToIn2 61 = .ok (.iload 4, 2) := by decide +kernel
theorem dX8_comesToIn2_63 : decode cX8_comesToIn2 63 = .ok (.iload 5, 2) := by decide +kernel
theorem dX8_comesToIn2_65 : decode cX8_comesToIn2 65 = .ok (.iconst 0, 1) := by decide +kernel
theorem dX8_comesToIn2_66 : decode cX8_comesToIn2 66 = .ok (.iconst 0, 1) := by decide +kernel
theorem dX8_comesToIn2_67 : decode cX8_comesToIn2 67 = .ok (.invokevirtual 157, 3) := by decide +kernel
theorem dX8_comesToIn2_70 : decode cX8_comesToIn2 70 = .ok (.aload_n 0, 1) := by decide +kernel
theorem dX8_comesToIn2_71 : decode cX8_comesToIn2 71 = .ok (.iload_n 1, 1) := by decide +kernel
theorem dX8_comesToIn2_72 : decode cX8_comesToIn2 72 = .ok (.invokevirtual 250, 3) := by decide +kernel
theorem dX8_comesToIn2_75 : decode cX8_comesToIn2 75 = .ok (.istore_n 2, 1) := by decide +kernel
theorem dX8_comesToIn2_76 : decode cX8_comesToIn2 76 = .ok (.aload_n 0, 1) := by decide +kernel
theorem dX8_comesToIn2_77 : decode cX8_comesToIn2 77 = .ok (.iconst 2, 1) := by decide +kernel
theorem dX8_comesToIn2_78 : decode cX8_comesToIn2 78 = .ok (.iconst 0, 1) := by decide +kernel
theorem dX8_comesToIn2_79 : decode cX8_comesToIn2 79 = .ok (.invokevirtual 177, 3) := by decide +kernel
theorem dX8_comesToIn2_82 : decode cX8_comesToIn2 82 = .ok (.iinc 5 1, 3) := by decide +kernel
theorem dX8_comesToIn2_85 : decode cX8_comesToIn2 85 = .ok (.goto (-55), 3) := by decide +kernel
theorem dX8_comesToIn2_88 : decode cX8_comesToIn2 88 = .ok (.iinc 4 1, 3) := by decide +kernel
theorem dX8_comesToIn2_91 : decode cX8_comesToIn2 91 = .ok (.goto (-81), 3) := by decide +kernel
theorem dX8_comesToIn2_94 : decode cX8_comesToIn2 94 = .ok (.iload_n 2, 1) := by decide +kernel
theorem dX8_comesToIn2_95 : decode cX8_comesToIn2 95 = .ok (.ireturn, 1) := by decide +kernel
set_option maxRecDepth 20000 in
theorem ggX8_more_X8_bound : GoodIn wsX8_more wsX8_bound := goodIn_r _ [4] (by decide +kernel) (by decide +kernel)
set_option maxRecDepth 20000 in
theorem gX8_more_X8_bound : GoodIn wsX8_more (va_wsS RX8 120 yX8_bound wsX8_bound) := goodIn_app (goodIn_of _ (by decide +kernel)) ggX8_more_X8_bound
set_option maxRecDepth 20000 in
theorem ggX8_more_X8_no : GoodIn wsX8_more wsX8_no := goodIn_r _ [8, 9, 95, 96, 97, 98, 99, 100, 101, 102, 103, 104, 105, 106, 107, 108, 109, 110, 111, 112, 113, 114, 115, 116, 117, 118, 119, 120, 121, 122, 123, 124, 125, 126, 127] (by decide +kernel) (by decide +kernel)
set_option maxRecDepth 20000 in
theorem gX8_more_X8_no : GoodIn wsX8_more (wsV RX8 127 RX8 yX8_no wsX8_no) := goodIn_app (goodIn_of _ (by decide +kernel)) ggX8_more_X8_no
set_option maxRecDepth 20000 in
theorem ggX8_more_X8_isThere : GoodIn wsX8_more wsX8_isThere := goodIn_r _ [13, 14, 15, 16, 95, 96, 97, 98, 99, 100, 101, 102, 103, 104, 105, 106, 107, 108, 109, 110, 111, 112, 113, 114, 115, 116, 117, 118, 119, 120, 121, 122, 123, 124, 125, 126, 127] (by decide +kernel) (by decide +kernel)
set_option maxRecDepth 20000 in
theorem gX8_more_X8_isThere : GoodIn wsX8_more (wsV RX8 97 RX8 yX8_isThere wsX8_isThere) := goodIn_app (goodIn_of _ (by decide +kernel)) ggX8_more_X8_isThere
set_option maxRecDepth 20000 in
theorem ggX8_more_X8_comesToIn1 : GoodIn wsX8_more wsX8_comesToIn1 := goodIn_r _ [20, 14, 16, 21, 22, 23, 3, 24, 25, 26, 27, 28, 15, 29, 30, 31, 32, 33, 34, 35, 36, 37, 38, 39, 40, 41, 42, 43, 44, 45, 10, 11, 12, 13, 46, 47, 48, 49, 50, 51, 52, 53, 54, 95, 96, 97, 98, 99, 100, 101, 102, 103, 104, 105, 106, 107, 108, 109, 110, 111, 112, 113, 114, 115, 116, 117, 118, 119, 120, 121, 122, 123, 124, 125, 126, 127] (by decide +kernel) (by decide +kernel)
set_option maxRecDepth 20000 in
theorem gX8_more_X8_comesToIn1 : GoodIn wsX8_more (wsV RX8 250 RX8 yX8_comesToIn1 wsX8_comesToIn1) := goodIn_app (goodIn_of _ (by decide +kernel)) ggX8_more_X8_comesToIn1
set_option maxRecDepth 20000 in
theorem ggX8_more_X8_comesToIn2 : GoodIn wsX8_more wsX8_comesToIn2 := goodIn_r _ [58, 14, 21, 22, 23, 3, 24, 25, 26, 27, 28, 15, 29, 30, 31, 32, 33, 34, 35, 36, 37, 38, 39, 16, 40, 41, 42, 43, 44, 45, 10, 11, 12, 13, 46, 47, 48, 49, 50, 51, 52, 53, 54, 59, 60, 61, 62, 63, 64, 65, 66, 67, 68, 69, 70, 71, 72, 73, 74, 75, 76, 77, 78, 79, 80, 81, 82, 83, 84, 85, 86, 87, 88, 89, 90, 91, 92, 93, 94, 17, 18, 19, 20, 95, 96, 97, 98, 99, 100, 101, 102, 103, 104, 105, 106, 107, 108, 109, 110, 111, 112, 113, 114, 115, 116, 117, 118, 119, 120, 121, 122, 123, 124, 125, 126, 127] (by decide +kernel) (by decide +kernel)
set_option maxRecDepth 20000 in
theorem gX8_more_X8_comesToIn2 : GoodIn wsX8_more (wsV RX8 253 RX8 yX8_comesToIn2 wsX8_comesToIn2) := goodIn_app (goodIn_of _ (by decide +kernel)) ggX8_more_X8_comesToIn2
theorem dX8_more_0 : decode cX8_more 0 = .ok (.iload_n 1, 1) := by decide +kernel
theorem dX8_more_1 : decode cX8_more 1 = .ok (.iconst 1, 1) := by decide +kernel
theorem dX8_more_2 : decode cX8_more 2 = .ok (.sipush 300, 3) := by decide +kernel
theorem dX8_more_5 : decode cX8_more 5 = .ok (.invokestatic 120, 3) := by decide +kernel
theorem dX8_more_8 : decode cX8_more 8 = .ok (.istore_n 2, 1) := by decide +kernel
theorem dX8_more_9 : decode cX8_more 9 = .ok (.iload_n 2, 1) := by decide +kernel
theorem dX8_more_10 : decode cX8_more 10 = .ok (.ifCond .eq 9, 3) := by decide +kernel
theorem dX8_more_13 : decode cX8_more 13 = .ok (.aload_n 0, 1) := by decide +kernel
theorem dX8_more_14 : decode cX8_more 14 = .ok (.iload_n 2, 1) := by decide +kernel
theorem dX8_more_15 : decode cX8_more 15 = .ok (.invokevirtual 127, 3) := by decide +kernel
theorem dX8_more_18 : decode cX8_more 18 = .ok (.ireturn, 1) := by decide +kernel
theorem dX8_more_19 : decode cX8_more 19 = .ok (.aload_n 0, 1) := by decide +kernel
theorem dX8_more_20 : decode cX8_more 20 = .ok (.iload_n 1, 1) := by decide +kernel
theorem dX8_more_21 : decode cX8_more 21 = .ok (.invokevirtual 97, 3) := by decide +kernel
theorem dX8_more_24 : decode cX8_more 24 = .ok (.ifCond .eq 5, 3) := by decide +kernel
theorem dX8_more_27 : decode cX8_more 27 = .ok (.iconst 0, 1) := by decide +kernel
theorem dX8_more_28 : decode cX8_more 28 = .ok (.ireturn, 1) := by decide +kernel
theorem dX8_more_29 : decode cX8_more 29 = .ok (.aload_n 0, 1) := by decide +kernel
theorem dX8_more_30 : decode cX8_more 30 = .ok (.iload_n 1, 1) := by decide +kernel
theorem dX8_more_31 : decode cX8_more 31 = .ok (.invokevirtual 250, 3) := by decide +kernel
theorem dX8_more_34 : decode cX8_more 34 = .ok (.ifCond .eq 7, 3) := by decide +kernel
theorem dX8_more_37 : decode cX8_more 37 = .ok (.iconst 1, 1) := by decide +kernel
theorem dX8_more_38 : decode cX8_more 38 = .ok (.goto 17, 3) := by decide +kernel
theorem dX8_more_41 : decode cX8_more 41 = .ok (.aload_n 0, 1) := by decide +kernel
theorem dX8_more_42 : decode cX8_more 42 = .ok (.iload_n 1, 1) := by decide +kernel
theorem dX8_more_43 : decode cX8_more 43 = .ok (.invokevirtual 253, 3) := by decide +kernel
theorem dX8_more_46 : decode cX8_more 46 = .ok (.ifCond .eq 7, 3) := by decide +kernel
theorem dX8_more_49 : decode cX8_more 49 = .ok (.iconst 2, 1) := by decide +kernel
theorem dX8_more_50 : decode cX8_more 50 = .ok (.goto 5, 3) := by decide +kernel
theorem dX8_more_53 : decode cX8_more 53 = .ok (.bipush (-9), 2) := by decide +kernel
theorem dX8_more_55 : decode cX8_more 55 = .ok (.ireturn, 1) := by decide +kernel
set_option maxRecDepth 20000 in
theorem ggX8_needs_X8_standing : GoodIn wsX8_needs wsX8_standing := goodIn_r _ [7, 8, 9, 10, 11, 12, 13, 14, 15, 16, 17, 18, 19, 20, 21, 22, 23, 24, 25, 26, 27, 28, 29, 30, 31, 32, 33, 34, 35, 36, 37, 38, 39, 40, 41, 42] (by decide +kernel) (by decide +kernel)
set_option maxRecDepth 20000 in
theorem gX8_needs_X8_standing : GoodIn wsX8_needs (wsV RX8 204 RX8 yX8_standing wsX8_standing) := goodIn_app (goodIn_of _ (by decide +kernel)) ggX8_needs_X8_standing
theorem dX8_needs_0 : decode cX8_needs 0 = .ok (.iconst 0, 1) := by decide +kernel
theorem dX8_needs_1 : decode cX8_needs 1 = .ok (.istore_n 2, 1) := by decide +kernel
theorem dX8_needs_2 : decode cX8_needs 2 = .ok (.aload_n 0, 1) := by decide +kernel
theorem dX8_needs_3 : decode cX8_needs 3 = .ok (.getfield 22, 3) := by decide +kernel
theorem dX8_needs_6 : decode cX8_needs 6 = .ok (.iload_n 1, 1) := by decide +kernel
theorem dX8_needs_7 : decode cX8_needs 7 = .ok (.iaload, 1) := by decide +kernel
theorem dX8_needs_8 : decode cX8_needs 8 = .ok (.ifCond .lt 23, 3) := by decide +kernel
theorem dX8_needs_11 : decode cX8_needs 11 = .ok (.iload_n 2, 1) := by decide +kernel
theorem dX8_needs_12 : decode cX8_needs 12 = .ok (.iconst 1, 1) := by decide +kernel
theorem dX8_needs_13 : decode cX8_needs 13 = .ok (.aload_n 0, 1) := by decide +kernel
theorem dX8_needs_14 : decode cX8_needs 14 = .ok (.getfield 22, 3) := by decide +kernel
theorem dX8_needs_17 : decode cX8_needs 17 = .ok (.iload_n 1, 1) := by decide +kernel
theorem dX8_needs_18 : decode cX8_needs 18 = .ok (.iaload, 1) := by decide +kernel
theorem dX8_needs_19 : decode cX8_needs 19 = .ok (.ishl, 1) := by decide +kernel
theorem dX8_needs_20 : decode cX8_needs 20 = .ok (.iconst 1, 1) := by decide +kernel
theorem dX8_needs_21 : decode cX8_needs 21 = .ok (.aload_n 0, 1) := by decide +kernel
theorem dX8_needs_22 : decode cX8_needs 22 = .ok (.getfield 25, 3) := by decide +kernel
theorem dX8_needs_25 : decode cX8_needs 25 = .ok (.iload_n 1, 1) := by decide +kernel
theorem dX8_needs_26 : decode cX8_needs 26 = .ok (.iaload, 1) := by decide +kernel
theorem dX8_needs_27 : decode cX8_needs 27 = .ok (.ishl, 1) := by decide +kernel
theorem dX8_needs_28 : decode cX8_needs 28 = .ok (.ior, 1) := by decide +kernel
theorem dX8_needs_29 : decode cX8_needs 29 = .ok (.ior, 1) := by decide +kernel
theorem dX8_needs_30 : decode cX8_needs 30 = .ok (.istore_n 2, 1) := by decide +kernel
theorem dX8_needs_31 : decode cX8_needs 31 = .ok (.iload_n 2, 1) := by decide +kernel
theorem dX8_needs_32 : decode cX8_needs 32 = .ok (.aload_n 0, 1) := by decide +kernel
theorem dX8_needs_33 : decode cX8_needs 33 = .ok (.invokevirtual 204, 3) := by decide +kernel
theorem dX8_needs_36 : decode cX8_needs 36 = .ok (.iand, 1) := by decide +kernel
theorem dX8_needs_37 : decode cX8_needs 37 = .ok (.ireturn, 1) := by decide +kernel
set_option maxRecDepth 20000 in
theorem ggX8_orders_X8_standing : GoodIn wsX8_orders wsX8_standing := goodIn_r _ [7, 2, 8, 18, 19, 20, 21, 22, 23, 24, 25, 26, 27, 28, 29, 30, 31, 32, 33, 34, 35, 36, 37, 38, 39, 40, 41, 42, 43, 44, 45, 46, 47, 48, 49, 50] (by decide +kernel) (by decide +kernel)
set_option maxRecDepth 20000 in
theorem gX8_orders_X8_standing : GoodIn wsX8_orders (wsV RX8 204 RX8 yX8_standing wsX8_standing) := goodIn_app (goodIn_of _ (by decide +kernel)) ggX8_orders_X8_standing
set_option maxRecDepth 20000 in
theorem ggX8_orders_X8_has : GoodIn wsX8_orders wsX8_has := goodIn_r _ [11] (by decide +kernel) (by decide +kernel)
set_option maxRecDepth 20000 in
theorem gX8_orders_X8_has : GoodIn wsX8_orders (va_wsS RX8 256 yX8_has wsX8_has) := goodIn_app (goodIn_of _ (by decide +kernel)) ggX8_orders_X8_has
set_option maxRecDepth 20000 in
theorem ggX8_orders_X8_needs : GoodIn wsX8_orders wsX8_needs := goodIn_r _ [15, 16, 17, 3, 4, 5, 6, 7, 2, 8, 18, 19, 20, 21, 22, 23, 24, 25, 26, 27, 28, 29, 30, 31, 32, 33, 34, 35, 36, 37, 38, 39, 40, 41, 42, 43, 44, 45, 46, 47, 48, 49, 50] (by decide +kernel) (by decide +kernel)
set_option maxRecDepth 20000 in
theorem gX8_orders_X8_needs : GoodIn wsX8_orders (wsV RX8 259 RX8 yX8_needs wsX8_needs) := goodIn_app (goodIn_of _ (by decide +kernel)) ggX8_orders_X8_needs
theorem dX8_orders_0 : decode cX8_orders 0 = .ok (.aload_n 0, 1) := by decide +kernel
theorem dX8_orders_1 : decode cX8_orders 1 = .ok (.invokevirtual 204, 3) := by decide +kernel
theorem dX8_orders_4 : decode cX8_orders 4 = .ok (.istore_n 1, 1) := by decide +kernel
theorem dX8_orders_5 : decode cX8_orders 5 = .ok (.aload_n 0, 1) := by decide +kernel
theorem dX8_orders_6 : decode cX8_orders 6 = .ok (.getfield 58, 3) := by decide +kernel
theorem dX8_orders_9 : decode cX8_orders 9 = .ok (.iconst 0, 1) := by decide +kernel
theorem dX8_orders_10 : decode cX8_orders 10 = .ok (.iconst 1, 1) := by decide +kernel
theorem dX8_orders_11 : decode cX8_orders 11 = .ok (.iastore, 1) := by decide +kernel
theorem dX8_orders_12 : decode cX8_orders 12 = .ok (.iconst 1, 1) := by decide +kernel
theorem dX8_orders_13 : decode cX8_orders 13 = .ok (.istore_n 2, 1) := by decide +kernel
theorem dX8_orders_14 : decode cX8_orders 14 = .ok (.iload_n 2, 1) := by decide +kernel
theorem dX8_orders_15 : decode cX8_orders 15 = .ok (.iconst 1, 1) := by decide +kernel
theorem dX8_orders_16 : decode cX8_orders 16 = .ok (.aload_n 0, 1) := by decide +kernel
theorem dX8_orders_17 : decode cX8_orders 17 = .ok (.getfield 70, 3) := by decide +kernel
theorem dX8_orders_20 : decode cX8_orders 20 = .ok (.ishl, 1) := by decide +kernel
theorem dX8_orders_21 : decode cX8_orders 21 = .ok (.if_icmp .ge 89, 3) := by decide +kernel
theorem dX8_orders_24 : decode cX8_orders 24 = .ok (.aload_n 0, 1) := by decide +kernel
theorem dX8_orders_25 : decode cX8_orders 25 = .ok (.getfield 58, 3) := by decide +kernel
theorem dX8_orders_28 : decode cX8_orders 28 = .ok (.iload_n 2, 1) := by decide +kernel
theorem dX8_orders_29 : decode cX8_orders 29 = .ok (.iconst 0, 1) := by decide +kernel
theorem dX8_orders_30 : decode cX8_orders 30 = .ok (.iastore, 1) := by decide +kernel
theorem dX8_orders_31 : decode cX8_orders 31 = .ok (.iload_n 2, 1) := by decide +kernel
theorem dX8_orders_32 : decode cX8_orders 32 = .ok (.iload_n 1, 1) := by decide +kernel
theorem dX8_orders_33 : decode cX8_orders 33 = .ok (.iconst (-1), 1) := by decide +kernel
theorem dX8_orders_34 : decode cX8_orders 34 = .ok (.ixor, 1) := by decide +kernel
theorem dX8_orders_35 : decode cX8_orders 35 = .ok (.iand, 1) := by decide +kernel
theorem dX8_orders_36 : decode cX8_orders 36 = .ok (.ifCond .eq 6, 3) := by decide +kernel
theorem dX8_orders_39 : decode cX8_orders 39 = .ok (.goto 65, 3) := by decide +kernel
theorem dX8_orders_42 : decode cX8_orders 42 = .ok (.iconst 0, 1) := by decide +kernel
theorem dX8_orders_43 : decode cX8_orders 43 = .ok (.istore_n 3, 1) := by decide +kernel
theorem dX8_orders_44 : decode cX8_orders 44 = .ok (.iload_n 3, 1) := by decide +kernel
theorem dX8_orders_45 : decode cX8_orders 45 = .ok (.aload_n 0, 1) := by decide +kernel
theorem dX8_orders_46 : decode cX8_orders 46 = .ok (.getfield 70, 3) := by decide +kernel
theorem dX8_orders_49 : decode cX8_orders 49 = .ok (.if_icmp .ge 55, 3) := by decide +kernel
theorem dX8_orders_52 : decode cX8_orders 52 = .ok (.iload_n 2, 1) := by decide +kernel
theorem dX8_orders_53 : decode cX8_orders 53 = .ok (.iconst 1, 1) := by decide +kernel
theorem dX8_orders_54 : decode cX8_orders 54 = .ok (.iload_n 3, 1) := by decide +kernel
theorem dX8_orders_55 : decode cX8_orders 55 = .ok (.ishl, 1) := by decide +kernel
theorem dX8_orders_56 : decode cX8_orders 56 = .ok (.iconst (-1), 1) := by decide +kernel
theorem dX8_orders_57 : decode cX8_orders 57 = .ok (.ixor, 1) := by decide +kernel
theorem dX8_orders_58 : decode cX8_orders 58 = .ok (.iand, 1) := by decide +kernel
theorem dX8_orders_59 : decode cX8_orders 59 = .ok (.istore 4, 2) := by decide +kernel
theorem dX8_orders_61 : decode cX8_orders 61 = .ok (.iload_n 2, 1) := by decide +kernel
theorem dX8_orders_62 : decode cX8_orders 62 = .ok (.iload_n 3, 1) := by decide +kernel
theorem dX8_orders_63 : decode cX8_orders 63 = .ok (.invokestatic 256, 3) := by decide +kernel
theorem dX8_orders_66 : decode cX8_orders 66 = .ok (.ifCond .eq 32, 3) := by decide +kernel
theorem dX8_orders_69 : decode cX8_orders 69 = .ok (.aload_n 0, 1) := by decide +kernel
theorem dX8_orders_70 : decode cX8_orders 70 = .ok (.iload_n 3, 1) := by decide +kernel
theorem dX8_orders_71 : decode cX8_orders 71 = .ok (.invokevirtual 259, 3) := by decide +kernel
theorem dX8_orders_74 : decode cX8_orders 74 = .ok (.iload 4, 2) := by decide +kernel
theorem dX8_orders_76 : decode cX8_orders 76 = .ok (.iconst (-1), 1) := by decide +kernel
theorem dX8_orders_77 : decode cX8_orders 77 = .ok (.ixor, 1) := by decide +kernel
theorem dX8_orders_78 : decode cX8_orders 78 = .ok (.iand, 1) := by decide +kernel
theorem dX8_orders_79 : decode cX8_orders 79 = .ok (.ifCond .ne 19, 3) := by decide +kernel
theorem dX8_orders_82 : decode cX8_orders 82 = .ok (.aload_n 0, 1) := by decide +kernel
theorem dX8_orders_83 : decode cX8_orders 83 = .ok (.getfield 58, 3) := by decide +kernel
theorem dX8_orders_86 : decode cX8_orders 86 = .ok (.iload_n 2, 1) := by decide +kernel
theorem dX8_orders_87 : decode cX8_orders 87 = .ok (.dup2, 1) := by decide +kernel
theorem dX8_orders_88 : decode cX8_orders 88 = .ok (.iaload, 1) := by decide +kernel
theorem dX8_orders_89 : decode cX8_orders 89 = .ok (.aload_n 0, 1) := by decide +kernel
theorem dX8_orders_90 : decode cX8_orders 90 = .ok (.getfield 58, 3) := by decide +kernel
theorem dX8_orders_93 : decode cX8_orders 93 = .ok (.iload 4, 2) := by decide +kernel
theorem dX8_orders_95 : decode cX8_orders 95 = .ok (.iaload, 1) := by decide +kernel
theorem dX8_orders_96 : decode cX8_orders 96 = .ok (.iadd, 1) := by decide +kernel
theorem dX8_orders_97 : decode cX8_orders 97 = .ok (.iastore, 1) := by decide +kernel
theorem dX8_orders_98 : decode cX8_orders 98 = .ok (.iinc 3 1, 3) := by decide +kernel
theorem dX8_orders_101 : decode cX8_orders 101 = .ok (.goto (-57), 3) := by decide +kernel
theorem dX8_orders_104 : decode cX8_orders 104 = .ok (.iinc 2 1, 3) := by decide +kernel
theorem dX8_orders_107 : decode cX8_orders 107 = .ok (.goto (-93), 3) := by decide +kernel
theorem dX8_orders_110 : decode cX8_orders 110 = .ok (.aload_n 0, 1) := by decide +kernel
theorem dX8_orders_111 : decode cX8_orders 111 = .ok (.getfield 58, 3) := by decide +kernel
theorem dX8_orders_114 : decode cX8_orders 114 = .ok (.iload_n 1, 1) := by decide +kernel
theorem dX8_orders_115 : decode cX8_orders 115 = .ok (.iaload, 1) := by decide +kernel
theorem dX8_orders_116 : decode cX8_orders 116 = .ok (.ireturn, 1) := by decide +kernel
set_option maxRecDepth 20000 in
theorem ggX8_isSumIn_X8_has : GoodIn wsX8_isSumIn wsX8_has := goodIn_r _ [4] (by decide +kernel) (by decide +kernel)
set_option maxRecDepth 20000 in
theorem gX8_isSumIn_X8_has : GoodIn wsX8_isSumIn (va_wsS RX8 256 yX8_has wsX8_has) := goodIn_app (goodIn_of _ (by decide +kernel)) ggX8_isSumIn_X8_has
theorem dX8_isSumIn_0 : decode cX8_isSumIn 0 = .ok (.iconst 1, 1) := by decide +kernel
theorem dX8_isSumIn_1 : decode cX8_isSumIn 1 = .ok (.istore_n 3, 1) := by decide +kernel
theorem dX8_isSumIn_2 : decode cX8_isSumIn 2 = .ok (.iconst 2, 1) := by decide +kernel
theorem dX8_isSumIn_3 : decode cX8_isSumIn 3 = .ok (.iload_n 3, 1) := by decide +kernel
theorem dX8_isSumIn_4 : decode cX8_isSumIn 4 = .ok (.imul, 1) := by decide +kernel
theorem dX8_isSumIn_5 : decode cX8_isSumIn 5 = .ok (.iload_n 2, 1) := by decide +kernel
theorem dX8_isSumIn_6 : decode cX8_isSumIn 6 = .ok (.if_icmp .gt 29, 3) := by decide +kernel
theorem dX8_isSumIn_9 : decode cX8_isSumIn 9 = .ok (.iload_n 1, 1) := by decide +kernel
theorem dX8_isSumIn_10 : decode cX8_isSumIn 10 = .ok (.iload_n 3, 1) := by decide +kernel
theorem dX8_isSumIn_11 : decode cX8_isSumIn 11 = .ok (.invokestatic 256, 3) := by decide +kernel
theorem dX8_isSumIn_14 : decode cX8_isSumIn 14 = .ok (.ifCond .eq 15, 3) := by decide +kernel
theorem dX8_isSumIn_17 : decode cX8_isSumIn 17 = .ok (.iload_n 1, 1) := by decide +kernel
theorem dX8_isSumIn_18 : decode cX8_isSumIn 18 = .ok (.iload_n 2, 1) := by decide +kernel
theorem dX8_isSumIn_19 : decode cX8_isSumIn 19 = .ok (.iload_n 3, 1) := by decide +kernel
theorem dX8_isSumIn_20 : decode cX8_isSumIn 20 = .ok (.isub, 1) := by decide +kernel
theorem dX8_isSumIn_21 : decode cX8_isSumIn 21 = .ok (.invokestatic 256, 3) := by decide +kernel
theorem dX8_isSumIn_24 : decode cX8_isSumIn 24 = .ok (.ifCond .eq 5, 3) := by decide +kernel
theorem dX8_isSumIn_27 : decode cX8_isSumIn 27 = .ok (.iconst 1, 1) := by decide +kernel
theorem dX8_isSumIn_28 : decode cX8_isSumIn 28 = .ok (.ireturn, 1) := by decide +kernel
theorem dX8_isSumIn_29 : decode cX8_isSumIn 29 = .ok (.iinc 3 1, 3) := by decide +kernel
theorem dX8_isSumIn_32 : decode cX8_isSumIn 32 = .ok (.goto (-30), 3) := by decide +kernel
theorem dX8_isSumIn_35 : decode cX8_isSumIn 35 = .ok (.iconst 0, 1) := by decide +kernel
theorem dX8_isSumIn_36 : decode cX8_isSumIn 36 = .ok (.ireturn, 1) := by decide +kernel
set_option maxRecDepth 20000 in
theorem ggX8_doesWin_X8_has : GoodIn wsX8_doesWin wsX8_has := goodIn_r _ [5] (by decide +kernel) (by decide +kernel)
set_option maxRecDepth 20000 in
theorem gX8_doesWin_X8_has : GoodIn wsX8_doesWin (va_wsS RX8 256 yX8_has wsX8_has) := goodIn_app (goodIn_of _ (by decide +kernel)) ggX8_doesWin_X8_has
set_option maxRecDepth 20000 in
theorem ggX8_doesWin_X8_isSumIn : GoodIn wsX8_doesWin wsX8_isSumIn := goodIn_r _ [9, 2, 3, 4, 5] (by decide +kernel) (by decide +kernel)
set_option maxRecDepth 20000 in
theorem gX8_doesWin_X8_isSumIn : GoodIn wsX8_doesWin (wsV RX8 262 RX8 yX8_isSumIn wsX8_isSumIn) := goodIn_app (goodIn_of _ (by decide +kernel)) ggX8_doesWin_X8_isSumIn
theorem dX8_doesWin_0 : decode cX8_doesWin 0 = .ok (.iconst 2, 1) := by decide +kernel
theorem dX8_doesWin_1 : decode cX8_doesWin 1 = .ok (.istore_n 3, 1) := by decide +kernel
theorem dX8_doesWin_2 : decode cX8_doesWin 2 = .ok (.iload_n 3, 1) := by decide +kernel
theorem dX8_doesWin_3 : decode cX8_doesWin 3 = .ok (.iload_n 2, 1) := by decide +kernel
theorem dX8_doesWin_4 : decode cX8_doesWin 4 = .ok (.if_icmp .gt 46, 3) := by decide +kernel
theorem dX8_doesWin_7 : decode cX8_doesWin 7 = .ok (.iload_n 1, 1) := by decide +kernel
theorem dX8_doesWin_8 : decode cX8_doesWin 8 = .ok (.iload_n 3, 1) := by decide +kernel
theorem dX8_doesWin_9 : decode cX8_doesWin 9 = .ok (.invokestatic 256, 3) := by decide +kernel
theorem dX8_doesWin_12 : decode cX8_doesWin 12 = .ok (.ifCond .ne 32, 3) := by decide +kernel
theorem dX8_doesWin_15 : decode cX8_doesWin 15 = .ok (.aload_n 0, 1) := by decide +kernel
theorem dX8_doesWin_16 : decode cX8_doesWin 16 = .ok (.iload_n 1, 1) := by decide +kernel
theorem dX8_doesWin_17 : decode cX8_doesWin 17 = .ok (.iload_n 3, 1) := by decide +kernel
theorem dX8_doesWin_18 : decode cX8_doesWin 18 = .ok (.invokevirtual 262, 3) := by decide +kernel
theorem dX8_doesWin_21 : decode cX8_doesWin 21 = .ok (.ifCond .eq 23, 3) := by decide +kernel
theorem dX8_doesWin_24 : decode cX8_doesWin 24 = .ok (.iload_n 3, 1) := by decide +kernel
theorem dX8_doesWin_25 : decode cX8_doesWin 25 = .ok (.iload_n 2, 1) := by decide +kernel
theorem dX8_doesWin_26 : decode cX8_doesWin 26 = .ok (.if_icmp .eq 16, 3) := by decide +kernel
theorem dX8_doesWin_29 : decode cX8_doesWin 29 = .ok (.aload_n 0, 1) := by decide +kernel
theorem dX8_doesWin_30 : decode cX8_doesWin 30 = .ok (.getfield 61, 3) := by decide +kernel
theorem dX8_doesWin_33 : decode cX8_doesWin 33 = .ok (.iload_n 1, 1) := by decide +kernel
theorem dX8_doesWin_34 : decode cX8_doesWin 34 = .ok (.iconst 1, 1) := by decide +kernel
theorem dX8_doesWin_35 : decode cX8_doesWin 35 = .ok (.iload_n 3, 1) := by decide +kernel
theorem dX8_doesWin_36 : decode cX8_doesWin 36 = .ok (.ishl, 1) := by decide +kernel
theorem dX8_doesWin_37 : decode cX8_doesWin 37 = .ok (.ior, 1) := by decide +kernel
theorem dX8_doesWin_38 : decode cX8_doesWin 38 = .ok (.iaload, 1) := by decide +kernel
theorem dX8_doesWin_39 : decode cX8_doesWin 39 = .ok (.ifCond .ne 5, 3) := by decide +kernel
theorem dX8_doesWin_42 : decode cX8_doesWin 42 = .ok (.iconst 1, 1) := by decide +kernel
theorem dX8_doesWin_43 : decode cX8_doesWin 43 = .ok (.ireturn, 1) := by decide +kernel
theorem dX8_doesWin_44 : decode cX8_doesWin 44 = .ok (.iinc 3 1, 3) := by decide +kernel
theorem dX8_doesWin_47 : decode cX8_doesWin 47 = .ok (.goto (-45), 3) := by decide +kernel
theorem dX8_doesWin_50 : decode cX8_doesWin 50 = .ok (.iconst 0, 1) := by decide +kernel
theorem dX8_doesWin_51 : decode cX8_doesWin 51 = .ok (.ireturn, 1) := by decide +kernel
set_option maxRecDepth 20000 in
theorem ggX8_game_X8_bound : GoodIn wsX8_game wsX8_bound := goodIn_r _ [5] (by decide +kernel) (by decide +kernel)
set_option maxRecDepth 20000 in
theorem gX8_game_X8_bound : GoodIn wsX8_game (va_wsS RX8 120 yX8_bound wsX8_bound) := goodIn_app (goodIn_of _ (by decide +kernel)) ggX8_game_X8_bound
set_option maxRecDepth 20000 in
theorem ggX8_game_X8_no : GoodIn wsX8_game wsX8_no := goodIn_r _ [9, 10, 22, 23, 24, 25, 26, 27, 28, 29, 30, 31, 32, 33, 34, 35, 36, 37, 38, 39, 40, 41, 42, 43, 44, 45, 46, 47, 48, 49, 50, 51, 52, 53, 54] (by decide +kernel) (by decide +kernel)
set_option maxRecDepth 20000 in
theorem gX8_game_X8_no : GoodIn wsX8_game (wsV RX8 127 RX8 yX8_no wsX8_no) := goodIn_app (goodIn_of _ (by decide +kernel)) ggX8_game_X8_no
set_option maxRecDepth 20000 in
theorem ggX8_game_X8_has : GoodIn wsX8_game wsX8_has := goodIn_r _ [13] (by decide +kernel) (by decide +kernel)
set_option maxRecDepth 20000 in
theorem gX8_game_X8_has : GoodIn wsX8_game (va_wsS RX8 256 yX8_has wsX8_has) := goodIn_app (goodIn_of _ (by decide +kernel)) ggX8_game_X8_has
set_option maxRecDepth 20000 in
theorem ggX8_game_X8_doesWin : GoodIn wsX8_game wsX8_doesWin := goodIn_r _ [17, 1, 11, 12, 4, 13, 18, 19, 20, 21, 22, 23, 24, 25, 26, 27, 28, 29, 30, 31, 32, 33, 34, 35, 36, 37, 38, 39, 40, 41, 42, 43, 44, 45, 46, 47, 48, 49, 50, 51, 52, 53, 54] (by decide +kernel) (by decide +kernel)
set_option maxRecDepth 20000 in
theorem gX8_game_X8_doesWin : GoodIn wsX8_game (wsV RX8 265 RX8 yX8_doesWin wsX8_doesWin) := goodIn_app (goodIn_of _ (by decide +kernel)) ggX8_game_X8_doesWin
theorem dX8_game_0 : decode cX8_game 0 = .ok (.iload_n 1, 1) := by decide +kernel
theorem dX8_game_1 : decode cX8_game 1 = .ok (.iconst 2, 1) := by decide +kernel
theorem dX8_game_2 : decode cX8_game 2 = .ok (.bipush 12, 2) := by decide +kernel
theorem dX8_game_4 : decode cX8_game 4 = .ok (.invokestatic 120, 3) := by decide +kernel
theorem dX8_game_7 : decode cX8_game 7 = .ok (.istore_n 2, 1) := by decide +kernel
theorem dX8_game_8 : decode cX8_game 8 = .ok (.iload_n 2, 1) := by decide +kernel
theorem dX8_game_9 : decode cX8_game 9 = .ok (.ifCond .eq 9, 3) := by decide +kernel
theorem dX8_game_12 : decode cX8_game 12 = .ok (.aload_n 0, 1) := by decide +kernel
theorem dX8_game_13 : decode cX8_game 13 = .ok (.iload_n 2, 1) := by decide +kernel
theorem dX8_game_14 : decode cX8_game 14 = .ok (.invokevirtual 127, 3) := by decide +kernel
theorem dX8_game_17 : decode cX8_game 17 = .ok (.ireturn, 1) := by decide +kernel
theorem dX8_game_18 : decode cX8_game 18 = .ok (.iconst 1, 1) := by decide +kernel
theorem dX8_game_19 : decode cX8_game 19 = .ok (.iload_n 1, 1) := by decide +kernel
theorem dX8_game_20 : decode cX8_game 20 = .ok (.ishl, 1) := by decide +kernel
theorem dX8_game_21 : decode cX8_game 21 = .ok (.iconst 1, 1) := by decide +kernel
theorem dX8_game_22 : decode cX8_game 22 = .ok (.isub, 1) := by decide +kernel
theorem dX8_game_23 : decode cX8_game 23 = .ok (.istore_n 3, 1) := by decide +kernel
theorem dX8_game_24 : decode cX8_game 24 = .ok (.iload_n 3, 1) := by decide +kernel
theorem dX8_game_25 : decode cX8_game 25 = .ok (.iconst 2, 1) := by decide +kernel
theorem dX8_game_26 : decode cX8_game 26 = .ok (.if_icmp .lt 37, 3) := by decide +kernel
theorem dX8_game_29 : decode cX8_game 29 = .ok (.aload_n 0, 1) := by decide +kernel
theorem dX8_game_30 : decode cX8_game 30 = .ok (.getfield 61, 3) := by decide +kernel
theorem dX8_game_33 : decode cX8_game 33 = .ok (.iload_n 3, 1) := by decide +kernel
theorem dX8_game_34 : decode cX8_game 34 = .ok (.iload_n 3, 1) := by decide +kernel
theorem dX8_game_35 : decode cX8_game 35 = .ok (.iconst 1, 1) := by decide +kernel
theorem dX8_game_36 : decode cX8_game 36 = .ok (.invokestatic 256, 3) := by decide +kernel
theorem dX8_game_39 : decode cX8_game 39 = .ok (.ifCond .eq 16, 3) := by decide +kernel
theorem dX8_game_42 : decode cX8_game 42 = .ok (.aload_n 0, 1) := by decide +kernel
theorem dX8_game_43 : decode cX8_game 43 = .ok (.iload_n 3, 1) := by decide +kernel
theorem dX8_game_44 : decode cX8_game 44 = .ok (.iload_n 1, 1) := by decide +kernel
theorem dX8_game_45 : decode cX8_game 45 = .ok (.invokevirtual 265, 3) := by decide +kernel
theorem dX8_game_48 : decode cX8_game 48 = .ok (.ifCond .eq 7, 3) := by decide +kernel
theorem dX8_game_51 : decode cX8_game 51 = .ok (.iconst 1, 1) := by decide +kernel
theorem dX8_game_52 : decode cX8_game 52 = .ok (.goto 4, 3) := by decide +kernel
theorem dX8_game_55 : decode cX8_game 55 = .ok (.iconst 0, 1) := by decide +kernel
theorem dX8_game_56 : decode cX8_game 56 = .ok (.iastore, 1) := by decide +kernel
theorem dX8_game_57 : decode cX8_game 57 = .ok (.iinc 3 (-1), 3) := by decide +kernel
theorem dX8_game_60 : decode cX8_game 60 = .ok (.goto (-36), 3) := by decide +kernel
theorem dX8_game_63 : decode cX8_game 63 = .ok (.aload_n 0, 1) := by decide +kernel
theorem dX8_game_64 : decode cX8_game 64 = .ok (.getfield 61, 3) := by decide +kernel
theorem dX8_game_67 : decode cX8_game 67 = .ok (.iconst 2, 1) := by decide +kernel
theorem dX8_game_68 : decode cX8_game 68 = .ok (.iaload, 1) := by decide +kernel
theorem dX8_game_69 : decode cX8_game 69 = .ok (.ireturn, 1) := by decide +kernel
set_option maxRecDepth 20000 in
theorem ggX8_row_X8_bound : GoodIn wsX8_row wsX8_bound := goodIn_r _ [6] (by decide +kernel) (by decide +kernel)
set_option maxRecDepth 20000 in
theorem gX8_row_X8_bound : GoodIn wsX8_row (va_wsS RX8 120 yX8_bound wsX8_bound) := goodIn_app (goodIn_of _ (by decide +kernel)) ggX8_row_X8_bound
set_option maxRecDepth 20000 in
theorem ggX8_row_X8_no : GoodIn wsX8_row wsX8_no := goodIn_r _ [10, 11, 12, 13, 14, 15, 16, 17, 18, 19, 20, 21, 22, 23, 24, 25, 26, 27, 28, 29, 30, 31, 32, 33, 34, 35, 36, 37, 38, 39, 40, 41, 42, 43, 44] (by decide +kernel) (by decide +kernel)
set_option maxRecDepth 20000 in
theorem gX8_row_X8_no : GoodIn wsX8_row (wsV RX8 127 RX8 yX8_no wsX8_no) := goodIn_app (goodIn_of _ (by decide +kernel)) ggX8_row_X8_no
theorem dX8_row_0 : decode cX8_row 0 = .ok (.iload_n 1, 1) := by decide +kernel
theorem dX8_row_1 : decode cX8_row 1 = .ok (.iconst 1, 1) := by decide +kernel
theorem dX8_row_2 : decode cX8_row 2 = .ok (.sipush 9999, 3) := by decide +kernel
theorem dX8_row_5 : decode cX8_row 5 = .ok (.invokestatic 120, 3) := by decide +kernel
theorem dX8_row_8 : decode cX8_row 8 = .ok (.istore_n 2, 1) := by decide +kernel
theorem dX8_row_9 : decode cX8_row 9 = .ok (.iload_n 2, 1) := by decide +kernel
theorem dX8_row_10 : decode cX8_row 10 = .ok (.ifCond .ne 15, 3) := by decide +kernel
theorem dX8_row_13 : decode cX8_row 13 = .ok (.aload_n 0, 1) := by decide +kernel
theorem dX8_row_14 : decode cX8_row 14 = .ok (.getfield 268, 3) := by decide +kernel
theorem dX8_row_17 : decode cX8_row 17 = .ok (.bipush 12, 2) := by decide +kernel
theorem dX8_row_19 : decode cX8_row 19 = .ok (.if_icmp .ne 6, 3) := by decide +kernel
theorem dX8_row_22 : decode cX8_row 22 = .ok (.bipush (-6), 2) := by decide +kernel
theorem dX8_row_24 : decode cX8_row 24 = .ok (.istore_n 2, 1) := by decide +kernel
theorem dX8_row_25 : decode cX8_row 25 = .ok (.iload_n 2, 1) := by decide +kernel
theorem dX8_row_26 : decode cX8_row 26 = .ok (.ifCond .eq 9, 3) := by decide +kernel
theorem dX8_row_29 : decode cX8_row 29 = .ok (.aload_n 0, 1) := by decide +kernel
theorem dX8_row_30 : decode cX8_row 30 = .ok (.iload_n 2, 1) := by decide +kernel
theorem dX8_row_31 : decode cX8_row 31 = .ok (.invokevirtual 127, 3) := by decide +kernel
theorem dX8_row_34 : decode cX8_row 34 = .ok (.ireturn, 1) := by decide +kernel
theorem dX8_row_35 : decode cX8_row 35 = .ok (.aload_n 0, 1) := by decide +kernel
theorem dX8_row_36 : decode cX8_row 36 = .ok (.getfield 64, 3) := by decide +kernel
theorem dX8_row_39 : decode cX8_row 39 = .ok (.aload_n 0, 1) := by decide +kernel
theorem dX8_row_40 : decode cX8_row 40 = .ok (.getfield 268, 3) := by decide +kernel
theorem dX8_row_43 : decode cX8_row 43 = .ok (.iload_n 1, 1) := by decide +kernel
theorem dX8_row_44 : decode cX8_row 44 = .ok (.iastore, 1) := by decide +kernel
theorem dX8_row_45 : decode cX8_row 45 = .ok (.aload_n 0, 1) := by decide +kernel
theorem dX8_row_46 : decode cX8_row 46 = .ok (.dup, 1) := by decide +kernel
theorem dX8_row_47 : decode cX8_row 47 = .ok (.getfield 268, 3) := by decide +kernel
theorem dX8_row_50 : decode cX8_row 50 = .ok (.iconst 1, 1) := by decide +kernel
theorem dX8_row_51 : decode cX8_row 51 = .ok (.iadd, 1) := by decide +kernel
theorem dX8_row_52 : decode cX8_row 52 = .ok (.putfield 268, 3) := by decide +kernel
theorem dX8_row_55 : decode cX8_row 55 = .ok (.aload_n 0, 1) := by decide +kernel
theorem dX8_row_56 : decode cX8_row 56 = .ok (.getfield 268, 3) := by decide +kernel
theorem dX8_row_59 : decode cX8_row 59 = .ok (.ireturn, 1) := by decide +kernel
theorem dX8_isWell_0 : decode cX8_isWell 0 = .ok (.iload_n 1, 1) := by decide +kernel
theorem dX8_isWell_1 : decode cX8_isWell 1 = .ok (.ifCond .ne 17, 3) := by decide +kernel
theorem dX8_isWell_4 : decode cX8_isWell 4 = .ok (.aload_n 0, 1) := by decide +kernel
theorem dX8_isWell_5 : decode cX8_isWell 5 = .ok (.getfield 64, 3) := by decide +kernel
theorem dX8_isWell_8 : decode cX8_isWell 8 = .ok (.iconst 0, 1) := by decide +kernel
theorem dX8_isWell_9 : decode cX8_isWell 9 = .ok (.iaload, 1) := by decide +kernel
theorem dX8_isWell_10 : decode cX8_isWell 10 = .ok (.iconst 1, 1) := by decide +kernel
theorem dX8_isWell_11 : decode cX8_isWell 11 = .ok (.if_icmp .ne 7, 3) := by decide +kernel
theorem dX8_isWell_14 : decode cX8_isWell 14 = .ok (.iconst 1, 1) := by decide +kernel
theorem dX8_isWell_15 : decode cX8_isWell 15 = .ok (.goto 4, 3) := by decide +kernel
theorem dX8_isWell_18 : decode cX8_isWell 18 = .ok (.iconst 0, 1) := by decide +kernel
theorem dX8_isWell_19 : decode cX8_isWell 19 = .ok (.istore_n 2, 1) := by decide +kernel
theorem dX8_isWell_20 : decode cX8_isWell 20 = .ok (.iconst 0, 1) := by decide +kernel
theorem dX8_isWell_21 : decode cX8_isWell 21 = .ok (.istore_n 3, 1) := by decide +kernel
theorem dX8_isWell_22 : decode cX8_isWell 22 = .ok (.iload_n 3, 1) := by decide +kernel
theorem dX8_isWell_23 : decode cX8_isWell 23 = .ok (.iload_n 1, 1) := by decide +kernel
theorem dX8_isWell_24 : decode cX8_isWell 24 = .ok (.if_icmp .ge 72, 3) := by decide +kernel
theorem dX8_isWell_27 : decode cX8_isWell 27 = .ok (.aload_n 0, 1) := by decide +kernel
theorem dX8_isWell_28 : decode cX8_isWell 28 = .ok (.getfield 64, 3) := by decide +kernel
theorem dX8_isWell_31 : decode cX8_isWell 31 = .ok (.iload_n 3, 1) := by decide +kernel
theorem dX8_isWell_32 : decode cX8_isWell 32 = .ok (.iaload, 1) := by decide +kernel
theorem dX8_isWell_33 : decode cX8_isWell 33 = .ok (.aload_n 0, 1) := by decide +kernel
theorem dX8_isWell_34 : decode cX8_isWell 34 = .ok (.getfield 64, 3) := by decide +kernel
theorem dX8_isWell_37 : decode cX8_isWell 37 = .ok (.iload_n 1, 1) := by decide +kernel
theorem dX8_isWell_38 : decode cX8_isWell 38 = .ok (.iaload, 1) := by decide +kernel
theorem dX8_isWell_39 : decode cX8_isWell 39 = .ok (.if_icmp .ne 5, 3) := by decide +kernel
theorem dX8_isWell_42 : decode cX8_isWell 42 = .ok (.iconst 0, 1) := by decide +kernel
theorem dX8_isWell_43 : decode cX8_isWell 43 = .ok (.ireturn, 1) := by decide +kernel
theorem dX8_isWell_44 : decode cX8_isWell 44 = .ok (.iload_n 3, 1) := by decide +kernel
theorem dX8_isWell_45 : decode cX8_isWell 45 = .ok (.istore 4, 2) := by decide +kernel
theorem dX8_isWell_47 : decode cX8_isWell 47 = .ok (.iload 4, 2) := by decide +kernel
theorem dX8_isWell_49 : decode cX8_isWell 49 = .ok (.iload_n 1, 1) := by decide +kernel
theorem dX8_isWell_50 : decode cX8_isWell 50 = .ok (.if_icmp .ge 40, 3) := by decide +kernel
theorem dX8_isWell_53 : decode cX8_isWell 53 = .ok (.iload_n 2, 1) := by decide +kernel
theorem dX8_isWell_54 : decode cX8_isWell 54 = .ok (.aload_n 0, 1) := by decide +kernel
theorem dX8_isWell_55 : decode cX8_isWell 55 = .ok (.getfield 64, 3) := by decide +kernel
theorem dX8_isWell_58 : decode cX8_isWell 58 = .ok (.iload_n 3, 1) := by decide +kernel
theorem dX8_isWell_59 : decode cX8_isWell 59 = .ok (.iaload, 1) := by decide +kernel
theorem dX8_isWell_60 : decode cX8_isWell 60 = .ok (.aload_n 0, 1) := by decide +kernel
theorem dX8_isWell_61 : decode cX8_isWell 61 = .ok (.getfield 64, 3) := by decide +kernel
theorem dX8_isWell_64 : decode cX8_isWell 64 = .ok (.iload 4, 2) := by decide +kernel
theorem dX8_isWell_66 : decode cX8_isWell 66 = .ok (.iaload, 1) := by decide +kernel
theorem dX8_isWell_67 : decode cX8_isWell 67 = .ok (.iadd, 1) := by decide +kernel
theorem dX8_isWell_68 : decode cX8_isWell 68 = .ok (.aload_n 0, 1) := by decide +kernel
theorem dX8_isWell_69 : decode cX8_isWell 69 = .ok (.getfield 64, 3) := by decide +kernel
theorem dX8_isWell_72 : decode cX8_isWell 72 = .ok (.iload_n 1, 1) := by decide +kernel
theorem dX8_isWell_73 : decode cX8_isWell 73 = .ok (.iaload, 1) := by decide +kernel
theorem dX8_isWell_74 : decode cX8_isWell 74 = .ok (.if_icmp .ne 7, 3) := by decide +kernel
theorem dX8_isWell_77 : decode cX8_isWell 77 = .ok (.iconst 1, 1) := by decide +kernel
theorem dX8_isWell_78 : decode cX8_isWell 78 = .ok (.goto 4, 3) := by decide +kernel
theorem dX8_isWell_81 : decode cX8_isWell 81 = .ok (.iconst 0, 1) := by decide +kernel
theorem dX8_isWell_82 : decode cX8_isWell 82 = .ok (.ior, 1) := by decide +kernel
theorem dX8_isWell_83 : decode cX8_isWell 83 = .ok (.istore_n 2, 1) := by decide +kernel
theorem dX8_isWell_84 : decode cX8_isWell 84 = .ok (.iinc 4 1, 3) := by decide +kernel
theorem dX8_isWell_87 : decode cX8_isWell 87 = .ok (.goto (-40), 3) := by decide +kernel
theorem dX8_isWell_90 : decode cX8_isWell 90 = .ok (.iinc 3 1, 3) := by decide +kernel
theorem dX8_isWell_93 : decode cX8_isWell 93 = .ok (.goto (-71), 3) := by decide +kernel
theorem dX8_isWell_96 : decode cX8_isWell 96 = .ok (.iload_n 2, 1) := by decide +kernel
theorem dX8_isWell_97 : decode cX8_isWell 97 = .ok (.ireturn, 1) := by decide +kernel
set_option maxRecDepth 20000 in
theorem ggX8_judge_X8_isWell : GoodIn wsX8_judge wsX8_isWell := goodIn_r _ [6, 7, 8, 9, 10, 11, 12, 13, 14, 15, 16, 17, 18, 19, 20, 21, 22, 23, 24, 25, 26, 27, 28, 29, 30, 31, 32, 33, 34, 35, 36, 37, 38, 39, 40] (by decide +kernel) (by decide +kernel)
set_option maxRecDepth 20000 in
theorem gX8_judge_X8_isWell : GoodIn wsX8_judge (wsV RX8 271 RX8 yX8_isWell wsX8_isWell) := goodIn_app (goodIn_of _ (by decide +kernel)) ggX8_judge_X8_isWell
theorem dX8_judge_0 : decode cX8_judge 0 = .ok (.aload_n 0, 1) := by decide +kernel
theorem dX8_judge_1 : decode cX8_judge 1 = .ok (.getfield 268, 3) := by decide +kernel
theorem dX8_judge_4 : decode cX8_judge 4 = .ok (.istore_n 1, 1) := by decide +kernel
theorem dX8_judge_5 : decode cX8_judge 5 = .ok (.aload_n 0, 1) := by decide +kernel
theorem dX8_judge_6 : decode cX8_judge 6 = .ok (.iconst 0, 1) := by decide +kernel
theorem dX8_judge_7 : decode cX8_judge 7 = .ok (.putfield 268, 3) := by decide +kernel
theorem dX8_judge_10 : decode cX8_judge 10 = .ok (.iconst 0, 1) := by decide +kernel
theorem dX8_judge_11 : decode cX8_judge 11 = .ok (.istore_n 2, 1) := by decide +kernel
theorem dX8_judge_12 : decode cX8_judge 12 = .ok (.iload_n 2, 1) := by decide +kernel
theorem dX8_judge_13 : decode cX8_judge 13 = .ok (.iload_n 1, 1) := by decide +kernel
theorem dX8_judge_14 : decode cX8_judge 14 = .ok (.if_icmp .ge 19, 3) := by decide +kernel
theorem dX8_judge_17 : decode cX8_judge 17 = .ok (.aload_n 0, 1) := by decide +kernel
theorem dX8_judge_18 : decode cX8_judge 18 = .ok (.iload_n 2, 1) := by decide +kernel
theorem dX8_judge_19 : decode cX8_judge 19 = .ok (.invokevirtual 271, 3) := by decide +kernel
theorem dX8_judge_22 : decode cX8_judge 22 = .ok (.ifCond .ne 5, 3) := by decide +kernel
theorem dX8_judge_25 : decode cX8_judge 25 = .ok (.iload_n 2, 1) := by decide +kernel
theorem dX8_judge_26 : decode cX8_judge 26 = .ok (.ireturn, 1) := by decide +kernel
theorem dX8_judge_27 : decode cX8_judge 27 = .ok (.iinc 2 1, 3) := by decide +kernel
theorem dX8_judge_30 : decode cX8_judge 30 = .ok (.goto (-18), 3) := by decide +kernel
theorem dX8_judge_33 : decode cX8_judge 33 = .ok (.bipush (-9), 2) := by decide +kernel
theorem dX8_judge_35 : decode cX8_judge 35 = .ok (.ireturn, 1) := by decide +kernel
theorem dX8_draw_0 : decode cX8_draw 0 = .ok (.aload_n 0, 1) := by decide +kernel
theorem dX8_draw_1 : decode cX8_draw 1 = .ok (.aload_n 0, 1) := by decide +kernel
theorem dX8_draw_2 : decode cX8_draw 2 = .ok (.getfield 274, 3) := by decide +kernel
theorem dX8_draw_5 : decode cX8_draw 5 = .ok (.ldc_w 277, 3) := by decide +kernel
theorem dX8_draw_8 : decode cX8_draw 8 = .ok (.imul, 1) := by decide +kernel
theorem dX8_draw_9 : decode cX8_draw 9 = .ok (.sipush 12345, 3) := by decide +kernel
theorem dX8_draw_12 : decode cX8_draw 12 = .ok (.iadd, 1) := by decide +kernel
theorem dX8_draw_13 : decode cX8_draw 13 = .ok (.putfield 274, 3) := by decide +kernel
theorem dX8_draw_16 : decode cX8_draw 16 = .ok (.aload_n 0, 1) := by decide +kernel
theorem dX8_draw_17 : decode cX8_draw 17 = .ok (.getfield 274, 3) := by decide +kernel
theorem dX8_draw_20 : decode cX8_draw 20 = .ok (.ldc_w 278, 3) := by decide +kernel
theorem dX8_draw_23 : decode cX8_draw 23 = .ok (.iand, 1) := by decide +kernel
theorem dX8_draw_24 : decode cX8_draw 24 = .ok (.ldc_w 279, 3) := by decide +kernel
theorem dX8_draw_27 : decode cX8_draw 27 = .ok (.idiv, 1) := by decide +kernel
theorem dX8_draw_28 : decode cX8_draw 28 = .ok (.iload_n 1, 1) := by decide +kernel
theorem dX8_draw_29 : decode cX8_draw 29 = .ok (.irem, 1) := by decide +kernel
theorem dX8_draw_30 : decode cX8_draw 30 = .ok (.ireturn, 1) := by decide +kernel
theorem dX8_greatest_0 : decode cX8_greatest 0 = .ok (.iconst 0, 1) := by decide +kernel
theorem dX8_greatest_1 : decode cX8_greatest 1 = .ok (.istore_n 1, 1) := by decide +kernel
theorem dX8_greatest_2 : decode cX8_greatest 2 = .ok (.iconst 0, 1) := by decide +kernel
theorem dX8_greatest_3 : decode cX8_greatest 3 = .ok (.istore_n 2, 1) := by decide +kernel
theorem dX8_greatest_4 : decode cX8_greatest 4 = .ok (.iload_n 2, 1) := by decide +kernel
theorem dX8_greatest_5 : decode cX8_greatest 5 = .ok (.aload_n 0, 1) := by decide +kernel
theorem dX8_greatest_6 : decode cX8_greatest 6 = .ok (.getfield 70, 3) := by decide +kernel
theorem dX8_greatest_9 : decode cX8_greatest 9 = .ok (.if_icmp .ge 40, 3) := by decide +kernel
theorem dX8_greatest_12 : decode cX8_greatest 12 = .ok (.aload_n 0, 1) := by decide +kernel
theorem dX8_greatest_13 : decode cX8_greatest 13 = .ok (.getfield 28, 3) := by decide +kernel
theorem dX8_greatest_16 : decode cX8_greatest 16 = .ok (.iload_n 2, 1) := by decide +kernel
theorem dX8_greatest_17 : decode cX8_greatest 17 = .ok (.iaload, 1) := by decide +kernel
theorem dX8_greatest_18 : decode cX8_greatest 18 = .ok (.iconst 1, 1) := by decide +kernel
theorem dX8_greatest_19 : decode cX8_greatest 19 = .ok (.if_icmp .ne 22, 3) := by decide +kernel
theorem dX8_greatest_22 : decode cX8_greatest 22 = .ok (.aload_n 0, 1) := by decide +kernel
theorem dX8_greatest_23 : decode cX8_greatest 23 = .ok (.getfield 13, 3) := by decide +kernel
theorem dX8_greatest_26 : decode cX8_greatest 26 = .ok (.iload_n 2, 1) := by decide +kernel
theorem dX8_greatest_27 : decode cX8_greatest 27 = .ok (.iaload, 1) := by decide +kernel
theorem dX8_greatest_28 : decode cX8_greatest 28 = .ok (.iload_n 1, 1) := by decide +kernel
theorem dX8_greatest_29 : decode cX8_greatest 29 = .ok (.if_icmp .le 12, 3) := by decide +kernel
theorem dX8_greatest_32 : decode cX8_greatest 32 = .ok (.aload_n 0, 1) := by decide +kernel
theorem dX8_greatest_33 : decode cX8_greatest 33 = .ok (.getfield 13, 3) := by decide +kernel
theorem dX8_greatest_36 : decode cX8_greatest 36 = .ok (.iload_n 2, 1) := by decide +kernel
theorem dX8_greatest_37 : decode cX8_greatest 37 = .ok (.iaload, 1) := by decide +kernel
theorem dX8_greatest_38 : decode cX8_greatest 38 = .ok (.goto 4, 3) := by decide +kernel
theorem dX8_greatest_41 : decode cX8_greatest 41 = .ok (.iload_n 1, 1) := by decide +kernel
theorem dX8_greatest_42 : decode cX8_greatest 42 = .ok (.istore_n 1, 1) := by decide +kernel
theorem dX8_greatest_43 : decode cX8_greatest 43 = .ok (.iinc 2 1, 3) := by decide +kernel
theorem dX8_greatest_46 : decode cX8_greatest 46 = .ok (.goto (-42), 3) := by decide +kernel
theorem dX8_greatest_49 : decode cX8_greatest 49 = .ok (.iload_n 1, 1) := by decide +kernel
theorem dX8_greatest_50 : decode cX8_greatest 50 = .ok (.ireturn, 1) := by decide +kernel
set_option maxRecDepth 20000 in
theorem ggX8_buildsByLot_X8_draw : GoodIn wsX8_buildsByLot wsX8_draw := goodIn_r _ [6, 7, 8, 9, 10, 71, 72, 73, 74, 75, 76, 77, 78, 79, 80, 81, 82, 83, 84, 85, 86, 87, 88, 89, 90, 91, 92, 93, 94, 95, 96, 97, 98, 99, 100, 101, 102, 103] (by decide +kernel) (by decide +kernel)
set_option maxRecDepth 20000 in
theorem gX8_buildsByLot_X8_draw : GoodIn wsX8_buildsByLot (wsV RX8 280 RX8 yX8_draw wsX8_draw) := goodIn_app (goodIn_of _ (by decide +kernel)) ggX8_buildsByLot_X8_draw
set_option maxRecDepth 20000 in
theorem ggX8_buildsByLot_X8_canBe : GoodIn wsX8_buildsByLot wsX8_canBe := goodIn_r _ [14, 15, 16, 17, 5, 18, 19, 20, 21, 22, 23, 1, 24, 25, 26, 27, 28, 29, 30, 31, 32, 33, 34, 35, 36, 37, 38, 39, 40, 41, 42, 43, 44, 45, 46, 47, 48, 49, 50, 71, 72, 73, 74, 75, 76, 77, 78, 79, 80, 81, 82, 83, 84, 85, 86, 87, 88, 89, 90, 91, 92, 93, 94, 95, 96, 97, 98, 99, 100, 101, 102, 103] (by decide +kernel) (by decide +kernel)
set_option maxRecDepth 20000 in
theorem gX8_buildsByLot_X8_canBe : GoodIn wsX8_buildsByLot (wsV RX8 201 RX8 yX8_canBe wsX8_canBe) := goodIn_app (goodIn_of _ (by decide +kernel)) ggX8_buildsByLot_X8_canBe
set_option maxRecDepth 20000 in
theorem ggX8_buildsByLot_X8_builds : GoodIn wsX8_buildsByLot wsX8_builds := goodIn_r _ [54, 31, 55, 56, 57, 5, 58, 37, 59, 36, 19, 60, 61, 62, 63, 64, 65, 66, 67, 68, 1, 69, 70, 71, 72, 73, 74, 75, 76, 77, 78, 79, 80, 81, 82, 83, 84, 85, 86, 87, 88, 89, 90, 91, 92, 93, 94, 95, 96, 97, 98, 99, 100, 101, 102, 103] (by decide +kernel) (by decide +kernel)
set_option maxRecDepth 20000 in
theorem gX8_buildsByLot_X8_builds : GoodIn wsX8_buildsByLot (wsV RX8 157 RX8 yX8_builds wsX8_builds) := goodIn_app (goodIn_of _ (by decide +kernel)) ggX8_buildsByLot_X8_builds
theorem dX8_buildsByLot_0 : decode cX8_buildsByLot 0 = .ok (.aload_n 0, 1) := by decide +kernel
theorem dX8_buildsByLot_1 : decode cX8_buildsByLot 1 = .ok (.aload_n 0, 1) := by decide +kernel
theorem dX8_buildsByLot_2 : decode cX8_buildsByLot 2 = .ok (.getfield 70, 3) := by decide +kernel
theorem dX8_buildsByLot_5 : decode cX8_buildsByLot 5 = .ok (.invokevirtual 280, 3) := by decide +kernel
theorem dX8_buildsByLot_8 : decode cX8_buildsByLot 8 = .ok (.istore_n 1, 1) := by decide +kernel
theorem dX8_buildsByLot_9 : decode cX8_buildsByLot 9 = .ok (.aload_n 0, 1) := by decide +kernel
theorem dX8_buildsByLot_10 : decode cX8_buildsByLot 10 = .ok (.aload_n 0, 1) := by decide +kernel
theorem dX8_buildsByLot_11 : decode cX8_buildsByLot 11 = .ok (.getfield 70, 3) := by decide +kernel
theorem dX8_buildsByLot_14 : decode cX8_buildsByLot 14 = .ok (.invokevirtual 280, 3) := by decide +kernel
theorem dX8_buildsByLot_17 : decode cX8_buildsByLot 17 = .ok (.istore_n 2, 1) := by decide +kernel
theorem dX8_buildsByLot_18 : decode cX8_buildsByLot 18 = .ok (.aload_n 0, 1) := by decide +kernel
theorem dX8_buildsByLot_19 : decode cX8_buildsByLot 19 = .ok (.iload_n 1, 1) := by decide +kernel
theorem dX8_buildsByLot_20 : decode cX8_buildsByLot 20 = .ok (.iload_n 2, 1) := by decide +kernel
theorem dX8_buildsByLot_21 : decode cX8_buildsByLot 21 = .ok (.invokevirtual 201, 3) := by decide +kernel
theorem dX8_buildsByLot_24 : decode cX8_buildsByLot 24 = .ok (.ifCond .eq 20, 3) := by decide +kernel
theorem dX8_buildsByLot_27 : decode cX8_buildsByLot 27 = .ok (.aload_n 0, 1) := by decide +kernel
theorem dX8_buildsByLot_28 : decode cX8_buildsByLot 28 = .ok (.getfield 70, 3) := by decide +kernel
theorem dX8_buildsByLot_31 : decode cX8_buildsByLot 31 = .ok (.bipush 12, 2) := by decide +kernel
theorem dX8_buildsByLot_33 : decode cX8_buildsByLot 33 = .ok (.if_icmp .ge 11, 3) := by decide +kernel
theorem dX8_buildsByLot_36 : decode cX8_buildsByLot 36 = .ok (.aload_n 0, 1) := by decide +kernel
theorem dX8_buildsByLot_37 : decode cX8_buildsByLot 37 = .ok (.iload_n 1, 1) := by decide +kernel
theorem dX8_buildsByLot_38 : decode cX8_buildsByLot 38 = .ok (.iload_n 2, 1) := by decide +kernel
theorem dX8_buildsByLot_39 : decode cX8_buildsByLot 39 = .ok (.iconst 0, 1) := by decide +kernel
theorem dX8_buildsByLot_40 : decode cX8_buildsByLot 40 = .ok (.iconst 0, 1) := by decide +kernel
theorem dX8_buildsByLot_41 : decode cX8_buildsByLot 41 = .ok (.invokevirtual 157, 3) := by decide +kernel
theorem dX8_buildsByLot_44 : decode cX8_buildsByLot 44 = .ok (.return_, 1) := by decide +kernel
set_option maxRecDepth 20000 in
theorem ggX8_seeds_X8_isIn : GoodIn wsX8_seeds wsX8_isIn := goodIn_r _ [5] (by decide +kernel) (by decide +kernel)
set_option maxRecDepth 20000 in
theorem gX8_seeds_X8_isIn : GoodIn wsX8_seeds (va_wsS RX8 78 yX8_isIn wsX8_isIn) := goodIn_app (goodIn_of _ (by decide +kernel)) ggX8_seeds_X8_isIn
set_option maxRecDepth 20000 in
theorem ggX8_seeds_X8_bound : GoodIn wsX8_seeds wsX8_bound := goodIn_r _ [8] (by decide +kernel) (by decide +kernel)
set_option maxRecDepth 20000 in
theorem gX8_seeds_X8_bound : GoodIn wsX8_seeds (va_wsS RX8 120 yX8_bound wsX8_bound) := goodIn_app (goodIn_of _ (by decide +kernel)) ggX8_seeds_X8_bound
set_option maxRecDepth 20000 in
theorem ggX8_seeds_X8_no : GoodIn wsX8_seeds wsX8_no := goodIn_r _ [12, 13, 110, 111, 112, 113, 114, 115, 116, 117, 118, 119, 120, 121, 122, 123, 124, 125, 126, 127, 128, 129, 130, 131, 132, 133, 134, 135, 136, 137, 138, 139, 140, 141, 142] (by decide +kernel) (by decide +kernel)
set_option maxRecDepth 20000 in
theorem gX8_seeds_X8_no : GoodIn wsX8_seeds (wsV RX8 127 RX8 yX8_no wsX8_no) := goodIn_app (goodIn_of _ (by decide +kernel)) ggX8_seeds_X8_no
set_option maxRecDepth 20000 in
theorem ggX8_seeds_X8_passesAll : GoodIn wsX8_seeds wsX8_passesAll := goodIn_r _ [17, 18, 19, 20, 21, 22, 23, 24, 25, 26, 27, 28, 29, 30, 31, 32, 33, 4, 34, 35, 36, 37, 38, 39, 110, 111, 112, 113, 114, 115, 116, 117, 118, 119, 120, 121, 122, 123, 124, 125, 126, 127, 128, 129, 130, 131, 132, 133, 134, 135, 136, 137, 138, 139, 140, 141, 142] (by decide +kernel) (by decide +kernel)
set_option maxRecDepth 20000 in
theorem gX8_seeds_X8_passesAll : GoodIn wsX8_seeds (wsV RX8 177 RX8 yX8_passesAll wsX8_passesAll) := goodIn_app (goodIn_of _ (by decide +kernel)) ggX8_seeds_X8_passesAll
set_option maxRecDepth 20000 in
theorem ggX8_seeds_X8_buildsByLot : GoodIn wsX8_seeds wsX8_buildsByLot := goodIn_r _ [43, 28, 44, 45, 46, 4, 47, 1, 48, 49, 50, 51, 52, 53, 54, 55, 56, 57, 58, 25, 59, 60, 61, 62, 2, 3, 5, 63, 64, 65, 66, 20, 67, 68, 69, 70, 21, 26, 71, 72, 73, 74, 75, 76, 77, 78, 29, 79, 80, 81, 82, 83, 84, 85, 86, 87, 88, 89, 90, 27, 91, 92, 93, 94, 22, 95, 96, 97, 98, 23, 24, 110, 111, 112, 113, 114, 115, 116, 117, 118, 119, 120, 121, 122, 123, 124, 125, 126, 127, 128, 129, 130, 131, 132, 133, 134, 135, 136, 137, 138, 139, 140, 141, 142] (by decide +kernel) (by decide +kernel)
set_option maxRecDepth 20000 in
theorem gX8_seeds_X8_buildsByLot : GoodIn wsX8_seeds (wsV RX8 283 RX8 yX8_buildsByLot wsX8_buildsByLot) := goodIn_app (goodIn_of _ (by decide +kernel)) ggX8_seeds_X8_buildsByLot
set_option maxRecDepth 20000 in
theorem ggX8_seeds_X8_standing : GoodIn wsX8_seeds wsX8_standing := goodIn_r _ [102, 28, 25, 110, 111, 112, 113, 114, 115, 116, 117, 118, 119, 120, 121, 122, 123, 124, 125, 126, 127, 128, 129, 130, 131, 132, 133, 134, 135, 136, 137, 138, 139, 140, 141, 142] (by decide +kernel) (by decide +kernel)
set_option maxRecDepth 20000 in
theorem gX8_seeds_X8_standing : GoodIn wsX8_seeds (wsV RX8 204 RX8 yX8_standing wsX8_standing) := goodIn_app (goodIn_of _ (by decide +kernel)) ggX8_seeds_X8_standing
set_option maxRecDepth 20000 in
theorem ggX8_seeds_X8_bits : GoodIn wsX8_seeds wsX8_bits := goodIn_r _ [105] (by decide +kernel) (by decide +kernel)
set_option maxRecDepth 20000 in
theorem gX8_seeds_X8_bits : GoodIn wsX8_seeds (va_wsS RX8 207 yX8_bits wsX8_bits) := goodIn_app (goodIn_of _ (by decide +kernel)) ggX8_seeds_X8_bits
set_option maxRecDepth 20000 in
theorem ggX8_seeds_X8_greatest : GoodIn wsX8_seeds wsX8_greatest := goodIn_r _ [109, 28, 25, 20, 110, 111, 112, 113, 114, 115, 116, 117, 118, 119, 120, 121, 122, 123, 124, 125, 126, 127, 128, 129, 130, 131, 132, 133, 134, 135, 136, 137, 138, 139, 140, 141, 142] (by decide +kernel) (by decide +kernel)
set_option maxRecDepth 20000 in
theorem gX8_seeds_X8_greatest : GoodIn wsX8_seeds (wsV RX8 286 RX8 yX8_greatest wsX8_greatest) := goodIn_app (goodIn_of _ (by decide +kernel)) ggX8_seeds_X8_greatest
theorem dX8_seeds_0 : decode cX8_seeds 0 = .ok (.iload_n 3, 1) := by decide +kernel
theorem dX8_seeds_1 : decode cX8_seeds 1 = .ok (.iconst 0, 1) := by decide +kernel
theorem dX8_seeds_2 : decode cX8_seeds 2 = .ok (.iconst 1, 1) := by decide +kernel
theorem dX8_seeds_3 : decode cX8_seeds 3 = .ok (.invokestatic 78, 3) := by decide +kernel
theorem dX8_seeds_6 : decode cX8_seeds 6 = .ok (.ifCond .ne 8, 3) := by decide +kernel
theorem dX8_seeds_9 : decode cX8_seeds 9 = .ok (.bipush (-2), 2) := by decide +kernel
theorem dX8_seeds_11 : decode cX8_seeds 11 = .ok (.goto 10, 3) := by decide +kernel
theorem dX8_seeds_14 : decode cX8_seeds 14 = .ok (.iload_n 1, 1) := by decide +kernel
theorem dX8_seeds_15 : decode cX8_seeds 15 = .ok (.iconst 1, 1) := by decide +kernel
theorem dX8_seeds_16 : decode cX8_seeds 16 = .ok (.bipush 40, 2) := by decide +kernel
theorem dX8_seeds_18 : decode cX8_seeds 18 = .ok (.invokestatic 120, 3) := by decide +kernel
theorem dX8_seeds_21 : decode cX8_seeds 21 = .ok (.istore 4, 2) := by decide +kernel
theorem dX8_seeds_23 : decode cX8_seeds 23 = .ok (.iload 4, 2) := by decide +kernel
theorem dX8_seeds_25 : decode cX8_seeds 25 = .ok (.ifCond .eq 10, 3) := by decide +kernel
theorem dX8_seeds_28 : decode cX8_seeds 28 = .ok (.aload_n 0, 1) := by decide +kernel
theorem dX8_seeds_29 : decode cX8_seeds 29 = .ok (.iload 4, 2) := by decide +kernel
theorem dX8_seeds_31 : decode cX8_seeds 31 = .ok (.invokevirtual 127, 3) := by decide +kernel
theorem dX8_seeds_34 : decode cX8_seeds 34 = .ok (.ireturn, 1) := by decide +kernel
theorem dX8_seeds_35 : decode cX8_seeds 35 = .ok (.aload_n 0, 1) := by decide +kernel
theorem dX8_seeds_36 : decode cX8_seeds 36 = .ok (.iconst 2, 1) := by decide +kernel
theorem dX8_seeds_37 : decode cX8_seeds 37 = .ok (.iconst 1, 1) := by decide +kernel
theorem dX8_seeds_38 : decode cX8_seeds 38 = .ok (.invokevirtual 177, 3) := by decide +kernel
theorem dX8_seeds_41 : decode cX8_seeds 41 = .ok (.aload_n 0, 1) := by decide +kernel
theorem dX8_seeds_42 : decode cX8_seeds 42 = .ok (.iload_n 2, 1) := by decide +kernel
theorem dX8_seeds_43 : decode cX8_seeds 43 = .ok (.putfield 274, 3) := by decide +kernel
theorem dX8_seeds_46 : decode cX8_seeds 46 = .ok (.iconst 0, 1) := by decide +kernel
theorem dX8_seeds_47 : decode cX8_seeds 47 = .ok (.istore 5, 2) := by decide +kernel
theorem dX8_seeds_49 : decode cX8_seeds 49 = .ok (.iload 5, 2) := by decide +kernel
theorem dX8_seeds_51 : decode cX8_seeds 51 = .ok (.iload_n 1, 1) := by decide +kernel
theorem dX8_seeds_52 : decode cX8_seeds 52 = .ok (.if_icmp .ge 13, 3) := by decide +kernel
theorem dX8_seeds_55 : decode cX8_seeds 55 = .ok (.aload_n 0, 1) := by decide +kernel
theorem dX8_seeds_56 : decode cX8_seeds 56 = .ok (.invokevirtual 283, 3) := by decide +kernel
theorem dX8_seeds_59 : decode cX8_seeds 59 = .ok (.iinc 5 1, 3) := by decide +kernel
theorem dX8_seeds_62 : decode cX8_seeds 62 = .ok (.goto (-13), 3) := by decide +kernel
theorem dX8_seeds_65 : decode cX8_seeds 65 = .ok (.iload_n 3, 1) := by decide +kernel
theorem dX8_seeds_66 : decode cX8_seeds 66 = .ok (.ifCond .ne 13, 3) := by decide +kernel
theorem dX8_seeds_69 : decode cX8_seeds 69 = .ok (.aload_n 0, 1) := by decide +kernel
theorem dX8_seeds_70 : decode cX8_seeds 70 = .ok (.invokevirtual 204, 3) := by decide +kernel
theorem dX8_seeds_73 : decode cX8_seeds 73 = .ok (.invokestatic 207, 3) := by decide +kernel
theorem dX8_seeds_76 : decode cX8_seeds 76 = .ok (.goto 7, 3) := by decide +kernel
theorem dX8_seeds_79 : decode cX8_seeds 79 = .ok (.aload_n 0, 1) := by decide +kernel
theorem dX8_seeds_80 : decode cX8_seeds 80 = .ok (.invokevirtual 286, 3) := by decide +kernel
theorem dX8_seeds_83 : decode cX8_seeds 83 = .ok (.istore 5, 2) := by decide +kernel
theorem dX8_seeds_85 : decode cX8_seeds 85 = .ok (.aload_n 0, 1) := by decide +kernel
theorem dX8_seeds_86 : decode cX8_seeds 86 = .ok (.iconst 2, 1) := by decide +kernel
theorem dX8_seeds_87 : decode cX8_seeds 87 = .ok (.iconst 0, 1) := by decide +kernel
theorem dX8_seeds_88 : decode cX8_seeds 88 = .ok (.invokevirtual 177, 3) := by decide +kernel
theorem dX8_seeds_91 : decode cX8_seeds 91 = .ok (.iload 5, 2) := by decide +kernel
theorem dX8_seeds_93 : decode cX8_seeds 93 = .ok (.ireturn, 1) := by decide +kernel
theorem dX8_allEarned_0 : decode cX8_allEarned 0 = .ok (.iconst 0, 1) := by decide +kernel
theorem dX8_allEarned_1 : decode cX8_allEarned 1 = .ok (.istore_n 1, 1) := by decide +kernel
theorem dX8_allEarned_2 : decode cX8_allEarned 2 = .ok (.iconst 0, 1) := by decide +kernel
theorem dX8_allEarned_3 : decode cX8_allEarned 3 = .ok (.istore_n 2, 1) := by decide +kernel
theorem dX8_allEarned_4 : decode cX8_allEarned 4 = .ok (.iload_n 2, 1) := by decide +kernel
theorem dX8_allEarned_5 : decode cX8_allEarned 5 = .ok (.aload_n 0, 1) := by decide +kernel
theorem dX8_allEarned_6 : decode cX8_allEarned 6 = .ok (.getfield 70, 3) := by decide +kernel
theorem dX8_allEarned_9 : decode cX8_allEarned 9 = .ok (.if_icmp .ge 18, 3) := by decide +kernel
theorem dX8_allEarned_12 : decode cX8_allEarned 12 = .ok (.iload_n 1, 1) := by decide +kernel
theorem dX8_allEarned_13 : decode cX8_allEarned 13 = .ok (.aload_n 0, 1) := by decide +kernel
theorem dX8_allEarned_14 : decode cX8_allEarned 14 = .ok (.getfield 34, 3) := by decide +kernel
theorem dX8_allEarned_17 : decode cX8_allEarned 17 = .ok (.iload_n 2, 1) := by decide +kernel
theorem dX8_allEarned_18 : decode cX8_allEarned 18 = .ok (.iaload, 1) := by decide +kernel
theorem dX8_allEarned_19 : decode cX8_allEarned 19 = .ok (.iadd, 1) := by decide +kernel
theorem dX8_allEarned_20 : decode cX8_allEarned 20 = .ok (.istore_n 1, 1) := by decide +kernel
theorem dX8_allEarned_21 : decode cX8_allEarned 21 = .ok (.iinc 2 1, 3) := by decide +kernel
theorem dX8_allEarned_24 : decode cX8_allEarned 24 = .ok (.goto (-20), 3) := by decide +kernel
theorem dX8_allEarned_27 : decode cX8_allEarned 27 = .ok (.iload_n 1, 1) := by decide +kernel
theorem dX8_allEarned_28 : decode cX8_allEarned 28 = .ok (.ireturn, 1) := by decide +kernel
set_option maxRecDepth 20000 in
theorem ggX8_count_X8_isIn : GoodIn wsX8_count wsX8_isIn := goodIn_r _ [10] (by decide +kernel) (by decide +kernel)
set_option maxRecDepth 20000 in
theorem gX8_count_X8_isIn : GoodIn wsX8_count (va_wsS RX8 78 yX8_isIn wsX8_isIn) := goodIn_app (goodIn_of _ (by decide +kernel)) ggX8_count_X8_isIn
set_option maxRecDepth 20000 in
theorem ggX8_count_X8_standing : GoodIn wsX8_count wsX8_standing := goodIn_r _ [14, 2, 15, 29, 30, 31, 32, 33, 34, 35, 36, 37, 38, 39, 40, 41, 42, 43, 44, 45, 46, 47, 48, 49, 50, 51, 52, 53, 54, 55, 56, 57, 58, 59, 60, 61] (by decide +kernel) (by decide +kernel)
set_option maxRecDepth 20000 in
theorem gX8_count_X8_standing : GoodIn wsX8_count (wsV RX8 204 RX8 yX8_standing wsX8_standing) := goodIn_app (goodIn_of _ (by decide +kernel)) ggX8_count_X8_standing
set_option maxRecDepth 20000 in
theorem ggX8_count_X8_bits : GoodIn wsX8_count wsX8_bits := goodIn_r _ [18] (by decide +kernel) (by decide +kernel)
set_option maxRecDepth 20000 in
theorem gX8_count_X8_bits : GoodIn wsX8_count (va_wsS RX8 207 yX8_bits wsX8_bits) := goodIn_app (goodIn_of _ (by decide +kernel)) ggX8_count_X8_bits
set_option maxRecDepth 20000 in
theorem ggX8_count_X8_greatest : GoodIn wsX8_count wsX8_greatest := goodIn_r _ [22, 2, 15, 23, 29, 30, 31, 32, 33, 34, 35, 36, 37, 38, 39, 40, 41, 42, 43, 44, 45, 46, 47, 48, 49, 50, 51, 52, 53, 54, 55, 56, 57, 58, 59, 60, 61] (by decide +kernel) (by decide +kernel)
set_option maxRecDepth 20000 in
theorem gX8_count_X8_greatest : GoodIn wsX8_count (wsV RX8 286 RX8 yX8_greatest wsX8_greatest) := goodIn_app (goodIn_of _ (by decide +kernel)) ggX8_count_X8_greatest
set_option maxRecDepth 20000 in
theorem ggX8_count_X8_allEarned : GoodIn wsX8_count wsX8_allEarned := goodIn_r _ [27, 2, 28, 29, 30, 31, 32, 33, 34, 35, 36, 37, 38, 39, 40, 41, 42, 43, 44, 45, 46, 47, 48, 49, 50, 51, 52, 53, 54, 55, 56, 57, 58, 59, 60, 61] (by decide +kernel) (by decide +kernel)
set_option maxRecDepth 20000 in
theorem gX8_count_X8_allEarned : GoodIn wsX8_count (wsV RX8 289 RX8 yX8_allEarned wsX8_allEarned) := goodIn_app (goodIn_of _ (by decide +kernel)) ggX8_count_X8_allEarned
theorem dX8_count_0 : decode cX8_count 0 = .ok (.iload_n 1, 1) := by decide +kernel
theorem dX8_count_1 : decode cX8_count 1 = .ok (.bipush 11, 2) := by decide +kernel
theorem dX8_count_3 : decode cX8_count 3 = .ok (.bipush 16, 2) := by decide +kernel
theorem dX8_count_5 : decode cX8_count 5 = .ok (.invokestatic 78, 3) := by decide +kernel
theorem dX8_count_8 : decode cX8_count 8 = .ok (.ifCond .eq 13, 3) := by decide +kernel
theorem dX8_count_11 : decode cX8_count 11 = .ok (.aload_n 0, 1) := by decide +kernel
theorem dX8_count_12 : decode cX8_count 12 = .ok (.getfield 7, 3) := by decide +kernel
theorem dX8_count_15 : decode cX8_count 15 = .ok (.iload_n 1, 1) := by decide +kernel
theorem dX8_count_16 : decode cX8_count 16 = .ok (.bipush 10, 2) := by decide +kernel
theorem dX8_count_18 : decode cX8_count 18 = .ok (.isub, 1) := by decide +kernel
theorem dX8_count_19 : decode cX8_count 19 = .ok (.iaload, 1) := by decide +kernel
theorem dX8_count_20 : decode cX8_count 20 = .ok (.ireturn, 1) := by decide +kernel
theorem dX8_count_21 : decode cX8_count 21 = .ok (.iload_n 1, 1) := by decide +kernel
theorem dX8_count_22 : decode cX8_count 22 = .ok (.tableswitch 89 0 7 #[46, 51, 59, 64, 69, 74, 79, 84], 46) := by decide +kernel
theorem dX8_count_68 : decode cX8_count 68 = .ok (.aload_n 0, 1) := by decide +kernel
theorem dX8_count_69 : decode cX8_count 69 = .ok (.getfield 70, 3) := by decide +kernel
theorem dX8_count_72 : decode cX8_count 72 = .ok (.ireturn, 1) := by decide +kernel
theorem dX8_count_73 : decode cX8_count 73 = .ok (.aload_n 0, 1) := by decide +kernel
theorem dX8_count_74 : decode cX8_count 74 = .ok (.invokevirtual 204, 3) := by decide +kernel
theorem dX8_count_77 : decode cX8_count 77 = .ok (.invokestatic 207, 3) := by decide +kernel
theorem dX8_count_80 : decode cX8_count 80 = .ok (.ireturn, 1) := by decide +kernel
theorem dX8_count_81 : decode cX8_count 81 = .ok (.aload_n 0, 1) := by decide +kernel
theorem dX8_count_82 : decode cX8_count 82 = .ok (.invokevirtual 286, 3) := by decide +kernel
theorem dX8_count_85 : decode cX8_count 85 = .ok (.ireturn, 1) := by decide +kernel
theorem dX8_count_86 : decode cX8_count 86 = .ok (.aload_n 0, 1) := by decide +kernel
theorem dX8_count_87 : decode cX8_count 87 = .ok (.getfield 86, 3) := by decide +kernel
theorem dX8_count_90 : decode cX8_count 90 = .ok (.ireturn, 1) := by decide +kernel
theorem dX8_count_91 : decode cX8_count 91 = .ok (.aload_n 0, 1) := by decide +kernel
theorem dX8_count_92 : decode cX8_count 92 = .ok (.getfield 111, 3) := by decide +kernel
theorem dX8_count_95 : decode cX8_count 95 = .ok (.ireturn, 1) := by decide +kernel
theorem dX8_count_96 : decode cX8_count 96 = .ok (.aload_n 0, 1) := by decide +kernel
theorem dX8_count_97 : decode cX8_count 97 = .ok (.invokevirtual 289, 3) := by decide +kernel
theorem dX8_count_100 : decode cX8_count 100 = .ok (.ireturn, 1) := by decide +kernel
theorem dX8_count_101 : decode cX8_count 101 = .ok (.aload_n 0, 1) := by decide +kernel
theorem dX8_count_102 : decode cX8_count 102 = .ok (.getfield 124, 3) := by decide +kernel
theorem dX8_count_105 : decode cX8_count 105 = .ok (.ireturn, 1) := by decide +kernel
theorem dX8_count_106 : decode cX8_count 106 = .ok (.aload_n 0, 1) := by decide +kernel
theorem dX8_count_107 : decode cX8_count 107 = .ok (.getfield 268, 3) := by decide +kernel
theorem dX8_count_110 : decode cX8_count 110 = .ok (.ireturn, 1) := by decide +kernel
theorem dX8_count_111 : decode cX8_count 111 = .ok (.bipush (-9), 2) := by decide +kernel
theorem dX8_count_113 : decode cX8_count 113 = .ok (.ireturn, 1) := by decide +kernel
