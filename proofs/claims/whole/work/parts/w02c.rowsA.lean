set_option maxRecDepth 20000 in
theorem ggX5_init_X5_beginAnew : GoodIn wsX5_init wsX5_beginAnew := goodIn_r _ [16, 17, 18, 19, 20, 21, 15, 22, 7, 8, 9, 5, 6, 10, 11, 23, 24, 25, 26, 27, 28, 29, 30, 31, 32, 33, 34, 35, 36, 37] (by decide +kernel) (by decide +kernel)
set_option maxRecDepth 20000 in
theorem gX5_init_X5_beginAnew : GoodIn wsX5_init (wsV RX5 33 RX5 yX5_beginAnew wsX5_beginAnew) := goodIn_app (goodIn_of _ (by decide +kernel)) ggX5_init_X5_beginAnew
theorem dX5_init_0 : decode cX5_init 0 = .ok (.aload_n 0, 1) := by decide +kernel
theorem dX5_init_1 : decode cX5_init 1 = .ok (.invokespecial 3, 3) := by decide +kernel
theorem dX5_init_4 : decode cX5_init 4 = .ok (.aload_n 0, 1) := by decide +kernel
theorem dX5_init_5 : decode cX5_init 5 = .ok (.bipush 12, 2) := by decide +kernel
theorem dX5_init_7 : decode cX5_init 7 = .ok (.newarray .int, 2) := by decide +kernel
theorem dX5_init_9 : decode cX5_init 9 = .ok (.putfield 9, 3) := by decide +kernel
theorem dX5_init_12 : decode cX5_init 12 = .ok (.aload_n 0, 1) := by decide +kernel
theorem dX5_init_13 : decode cX5_init 13 = .ok (.bipush 12, 2) := by decide +kernel
theorem dX5_init_15 : decode cX5_init 15 = .ok (.newarray .int, 2) := by decide +kernel
theorem dX5_init_17 : decode cX5_init 17 = .ok (.putfield 15, 3) := by decide +kernel
theorem dX5_init_20 : decode cX5_init 20 = .ok (.aload_n 0, 1) := by decide +kernel
theorem dX5_init_21 : decode cX5_init 21 = .ok (.bipush 12, 2) := by decide +kernel
theorem dX5_init_23 : decode cX5_init 23 = .ok (.newarray .int, 2) := by decide +kernel
theorem dX5_init_25 : decode cX5_init 25 = .ok (.putfield 18, 3) := by decide +kernel
theorem dX5_init_28 : decode cX5_init 28 = .ok (.aload_n 0, 1) := by decide +kernel
theorem dX5_init_29 : decode cX5_init 29 = .ok (.bipush 12, 2) := by decide +kernel
theorem dX5_init_31 : decode cX5_init 31 = .ok (.newarray .int, 2) := by decide +kernel
theorem dX5_init_33 : decode cX5_init 33 = .ok (.putfield 21, 3) := by decide +kernel
theorem dX5_init_36 : decode cX5_init 36 = .ok (.aload_n 0, 1) := by decide +kernel
theorem dX5_init_37 : decode cX5_init 37 = .ok (.bipush 12, 2) := by decide +kernel
theorem dX5_init_39 : decode cX5_init 39 = .ok (.newarray .int, 2) := by decide +kernel
theorem dX5_init_41 : decode cX5_init 41 = .ok (.putfield 24, 3) := by decide +kernel
theorem dX5_init_44 : decode cX5_init 44 = .ok (.aload_n 0, 1) := by decide +kernel
theorem dX5_init_45 : decode cX5_init 45 = .ok (.bipush 12, 2) := by decide +kernel
theorem dX5_init_47 : decode cX5_init 47 = .ok (.newarray .int, 2) := by decide +kernel
theorem dX5_init_49 : decode cX5_init 49 = .ok (.putfield 27, 3) := by decide +kernel
theorem dX5_init_52 : decode cX5_init 52 = .ok (.aload_n 0, 1) := by decide +kernel
theorem dX5_init_53 : decode cX5_init 53 = .ok (.bipush 12, 2) := by decide +kernel
theorem dX5_init_55 : decode cX5_init 55 = .ok (.newarray .int, 2) := by decide +kernel
theorem dX5_init_57 : decode cX5_init 57 = .ok (.putfield 30, 3) := by decide +kernel
theorem dX5_init_60 : decode cX5_init 60 = .ok (.aload_n 0, 1) := by decide +kernel
theorem dX5_init_61 : decode cX5_init 61 = .ok (.invokevirtual 33, 3) := by decide +kernel
theorem dX5_init_64 : decode cX5_init 64 = .ok (.return_, 1) := by decide +kernel
set_option maxRecDepth 20000 in
theorem ggX5_beginAnew_X5_place : GoodIn wsX5_beginAnew wsX5_place := goodIn_r _ [7, 8, 1, 9, 10, 11, 12, 13, 14, 2, 15, 16, 17, 6, 18, 19, 20, 21, 22, 23, 24, 25, 26, 27, 28, 29] (by decide +kernel) (by decide +kernel)
set_option maxRecDepth 20000 in
theorem gX5_beginAnew_X5_place : GoodIn wsX5_beginAnew (wsV RX5 43 RX5 yX5_place wsX5_place) := goodIn_app (goodIn_of _ (by decide +kernel)) ggX5_beginAnew_X5_place
theorem dX5_beginAnew_0 : decode cX5_beginAnew 0 = .ok (.aload_n 0, 1) := by decide +kernel
theorem dX5_beginAnew_1 : decode cX5_beginAnew 1 = .ok (.iconst 0, 1) := by decide +kernel
theorem dX5_beginAnew_2 : decode cX5_beginAnew 2 = .ok (.putfield 36, 3) := by decide +kernel
theorem dX5_beginAnew_5 : decode cX5_beginAnew 5 = .ok (.aload_n 0, 1) := by decide +kernel
theorem dX5_beginAnew_6 : decode cX5_beginAnew 6 = .ok (.iconst 0, 1) := by decide +kernel
theorem dX5_beginAnew_7 : decode cX5_beginAnew 7 = .ok (.putfield 40, 3) := by decide +kernel
theorem dX5_beginAnew_10 : decode cX5_beginAnew 10 = .ok (.aload_n 0, 1) := by decide +kernel
theorem dX5_beginAnew_11 : decode cX5_beginAnew 11 = .ok (.iconst 1, 1) := by decide +kernel
theorem dX5_beginAnew_12 : decode cX5_beginAnew 12 = .ok (.bipush (-4), 2) := by decide +kernel
theorem dX5_beginAnew_14 : decode cX5_beginAnew 14 = .ok (.bipush (-4), 2) := by decide +kernel
theorem dX5_beginAnew_16 : decode cX5_beginAnew 16 = .ok (.iconst 0, 1) := by decide +kernel
theorem dX5_beginAnew_17 : decode cX5_beginAnew 17 = .ok (.iconst 0, 1) := by decide +kernel
theorem dX5_beginAnew_18 : decode cX5_beginAnew 18 = .ok (.invokevirtual 43, 3) := by decide +kernel
theorem dX5_beginAnew_21 : decode cX5_beginAnew 21 = .ok (.return_, 1) := by decide +kernel
theorem dX5_become_0 : decode cX5_become 0 = .ok (.aload_n 1, 1) := by decide +kernel
theorem dX5_become_1 : decode cX5_become 1 = .ok (.getfield 9, 3) := by decide +kernel
theorem dX5_become_4 : decode cX5_become 4 = .ok (.iconst 0, 1) := by decide +kernel
theorem dX5_become_5 : decode cX5_become 5 = .ok (.aload_n 0, 1) := by decide +kernel
theorem dX5_become_6 : decode cX5_become 6 = .ok (.getfield 9, 3) := by decide +kernel
theorem dX5_become_9 : decode cX5_become 9 = .ok (.iconst 0, 1) := by decide +kernel
theorem dX5_become_10 : decode cX5_become 10 = .ok (.bipush 12, 2) := by decide +kernel
theorem dX5_become_12 : decode cX5_become 12 = .ok (.invokestatic 47, 3) := by decide +kernel
theorem dX5_become_15 : decode cX5_become 15 = .ok (.aload_n 1, 1) := by decide +kernel
theorem dX5_become_16 : decode cX5_become 16 = .ok (.getfield 15, 3) := by decide +kernel
theorem dX5_become_19 : decode cX5_become 19 = .ok (.iconst 0, 1) := by decide +kernel
theorem dX5_become_20 : decode cX5_become 20 = .ok (.aload_n 0, 1) := by decide +kernel
theorem dX5_become_21 : decode cX5_become 21 = .ok (.getfield 15, 3) := by decide +kernel
theorem dX5_become_24 : decode cX5_become 24 = .ok (.iconst 0, 1) := by decide +kernel
theorem dX5_become_25 : decode cX5_become 25 = .ok (.bipush 12, 2) := by decide +kernel
theorem dX5_become_27 : decode cX5_become 27 = .ok (.invokestatic 47, 3) := by decide +kernel
theorem dX5_become_30 : decode cX5_become 30 = .ok (.aload_n 1, 1) := by decide +kernel
theorem dX5_become_31 : decode cX5_become 31 = .ok (.getfield 18, 3) := by decide +kernel
theorem dX5_become_34 : decode cX5_become 34 = .ok (.iconst 0, 1) := by decide +kernel
theorem dX5_become_35 : decode cX5_become 35 = .ok (.aload_n 0, 1) := by decide +kernel
theorem dX5_become_36 : decode cX5_become 36 = .ok (.getfield 18, 3) := by decide +kernel
theorem dX5_become_39 : decode cX5_become 39 = .ok (.iconst 0, 1) := by decide +kernel
theorem dX5_become_40 : decode cX5_become 40 = .ok (.bipush 12, 2) := by decide +kernel
theorem dX5_become_42 : decode cX5_become 42 = .ok (.invokestatic 47, 3) := by decide +kernel
theorem dX5_become_45 : decode cX5_become 45 = .ok (.aload_n 1, 1) := by decide +kernel
theorem dX5_become_46 : decode cX5_become 46 = .ok (.getfield 21, 3) := by decide +kernel
theorem dX5_become_49 : decode cX5_become 49 = .ok (.iconst 0, 1) := by decide +kernel
theorem dX5_become_50 : decode cX5_become 50 = .ok (.aload_n 0, 1) := by decide +kernel
theorem dX5_become_51 : decode cX5_become 51 = .ok (.getfield 21, 3) := by decide +kernel
theorem dX5_become_54 : decode cX5_become 54 = .ok (.iconst 0, 1) := by decide +kernel
theorem dX5_become_55 : decode cX5_become 55 = .ok (.bipush 12, 2) := by decide +kernel
theorem dX5_become_57 : decode cX5_become 57 = .ok (.invokestatic 47, 3) := by decide +kernel
theorem dX5_become_60 : decode cX5_become 60 = .ok (.aload_n 1, 1) := by decide +kernel
theorem dX5_become_61 : decode cX5_become 61 = .ok (.getfield 24, 3) := by decide +kernel
theorem dX5_become_64 : decode cX5_become 64 = .ok (.iconst 0, 1) := by decide +kernel
theorem dX5_become_65 : decode cX5_become 65 = .ok (.aload_n 0, 1) := by decide +kernel
theorem dX5_become_66 : decode cX5_become 66 = .ok (.getfield 24, 3) := by decide +kernel
theorem dX5_become_69 : decode cX5_become 69 = .ok (.iconst 0, 1) := by decide +kernel
theorem dX5_become_70 : decode cX5_become 70 = .ok (.bipush 12, 2) := by decide +kernel
theorem dX5_become_72 : decode cX5_become 72 = .ok (.invokestatic 47, 3) := by decide +kernel
theorem dX5_become_75 : decode cX5_become 75 = .ok (.aload_n 1, 1) := by decide +kernel
theorem dX5_become_76 : decode cX5_become 76 = .ok (.getfield 27, 3) := by decide +kernel
theorem dX5_become_79 : decode cX5_become 79 = .ok (.iconst 0, 1) := by decide +kernel
theorem dX5_become_80 : decode cX5_become 80 = .ok (.aload_n 0, 1) := by decide +kernel
theorem dX5_become_81 : decode cX5_become 81 = .ok (.getfield 27, 3) := by decide +kernel
theorem dX5_become_84 : decode cX5_become 84 = .ok (.iconst 0, 1) := by decide +kernel
theorem dX5_become_85 : decode cX5_become 85 = .ok (.bipush 12, 2) := by decide +kernel
theorem dX5_become_87 : decode cX5_become 87 = .ok (.invokestatic 47, 3) := by decide +kernel
theorem dX5_become_90 : decode cX5_become 90 = .ok (.aload_n 1, 1) := by decide +kernel
theorem dX5_become_91 : decode cX5_become 91 = .ok (.getfield 30, 3) := by decide +kernel
theorem dX5_become_94 : decode cX5_become 94 = .ok (.iconst 0, 1) := by decide +kernel
theorem dX5_become_95 : decode cX5_become 95 = .ok (.aload_n 0, 1) := by decide +kernel
theorem dX5_become_96 : decode cX5_become 96 = .ok (.getfield 30, 3) := by decide +kernel
theorem dX5_become_99 : decode cX5_become 99 = .ok (.iconst 0, 1) := by decide +kernel
theorem dX5_become_100 : decode cX5_become 100 = .ok (.bipush 12, 2) := by decide +kernel
theorem dX5_become_102 : decode cX5_become 102 = .ok (.invokestatic 47, 3) := by decide +kernel
theorem dX5_become_105 : decode cX5_become 105 = .ok (.aload_n 0, 1) := by decide +kernel
theorem dX5_become_106 : decode cX5_become 106 = .ok (.aload_n 1, 1) := by decide +kernel
theorem dX5_become_107 : decode cX5_become 107 = .ok (.getfield 36, 3) := by decide +kernel
theorem dX5_become_110 : decode cX5_become 110 = .ok (.putfield 36, 3) := by decide +kernel
theorem dX5_become_113 : decode cX5_become 113 = .ok (.aload_n 0, 1) := by decide +kernel
theorem dX5_become_114 : decode cX5_become 114 = .ok (.aload_n 1, 1) := by decide +kernel
theorem dX5_become_115 : decode cX5_become 115 = .ok (.getfield 40, 3) := by decide +kernel
theorem dX5_become_118 : decode cX5_become 118 = .ok (.putfield 40, 3) := by decide +kernel
theorem dX5_become_121 : decode cX5_become 121 = .ok (.aload_n 0, 1) := by decide +kernel
theorem dX5_become_122 : decode cX5_become 122 = .ok (.aload_n 1, 1) := by decide +kernel
theorem dX5_become_123 : decode cX5_become 123 = .ok (.getfield 53, 3) := by decide +kernel
theorem dX5_become_126 : decode cX5_become 126 = .ok (.putfield 53, 3) := by decide +kernel
theorem dX5_become_129 : decode cX5_become 129 = .ok (.aload_n 0, 1) := by decide +kernel
theorem dX5_become_130 : decode cX5_become 130 = .ok (.aload_n 1, 1) := by decide +kernel
theorem dX5_become_131 : decode cX5_become 131 = .ok (.getfield 56, 3) := by decide +kernel
theorem dX5_become_134 : decode cX5_become 134 = .ok (.putfield 56, 3) := by decide +kernel
theorem dX5_become_137 : decode cX5_become 137 = .ok (.return_, 1) := by decide +kernel
theorem dX5_isKind_0 : decode cX5_isKind 0 = .ok (.iload_n 0, 1) := by decide +kernel
theorem dX5_isKind_1 : decode cX5_isKind 1 = .ok (.ifCond .lt 12, 3) := by decide +kernel
theorem dX5_isKind_4 : decode cX5_isKind 4 = .ok (.iload_n 0, 1) := by decide +kernel
theorem dX5_isKind_5 : decode cX5_isKind 5 = .ok (.iconst 5, 1) := by decide +kernel
theorem dX5_isKind_6 : decode cX5_isKind 6 = .ok (.if_icmp .gt 7, 3) := by decide +kernel
theorem dX5_isKind_9 : decode cX5_isKind 9 = .ok (.iconst 1, 1) := by decide +kernel
theorem dX5_isKind_10 : decode cX5_isKind 10 = .ok (.goto 4, 3) := by decide +kernel
theorem dX5_isKind_13 : decode cX5_isKind 13 = .ok (.iconst 0, 1) := by decide +kernel
theorem dX5_isKind_14 : decode cX5_isKind 14 = .ok (.ireturn, 1) := by decide +kernel
theorem dX5_has_0 : decode cX5_has 0 = .ok (.iload_n 1, 1) := by decide +kernel
theorem dX5_has_1 : decode cX5_has 1 = .ok (.ifCond .lt 15, 3) := by decide +kernel
theorem dX5_has_4 : decode cX5_has 4 = .ok (.iload_n 1, 1) := by decide +kernel
theorem dX5_has_5 : decode cX5_has 5 = .ok (.aload_n 0, 1) := by decide +kernel
theorem dX5_has_6 : decode cX5_has 6 = .ok (.getfield 36, 3) := by decide +kernel
theorem dX5_has_9 : decode cX5_has 9 = .ok (.if_icmp .ge 7, 3) := by decide +kernel
theorem dX5_has_12 : decode cX5_has 12 = .ok (.iconst 1, 1) := by decide +kernel
theorem dX5_has_13 : decode cX5_has 13 = .ok (.goto 4, 3) := by decide +kernel
theorem dX5_has_16 : decode cX5_has 16 = .ok (.iconst 0, 1) := by decide +kernel
theorem dX5_has_17 : decode cX5_has 17 = .ok (.ireturn, 1) := by decide +kernel
set_option maxRecDepth 20000 in
theorem ggX5_stands_X5_has : GoodIn wsX5_stands wsX5_has := goodIn_r _ [6, 7, 11, 12, 13, 14, 15, 16, 17, 18, 19, 20, 21] (by decide +kernel) (by decide +kernel)
set_option maxRecDepth 20000 in
theorem gX5_stands_X5_has : GoodIn wsX5_stands (wsV RX5 59 RX5 yX5_has wsX5_has) := goodIn_app (goodIn_of _ (by decide +kernel)) ggX5_stands_X5_has
set_option maxRecDepth 20000 in
theorem ggX5_stands_X5_isIn : GoodIn wsX5_stands wsX5_isIn := goodIn_r _ [10] (by decide +kernel) (by decide +kernel)
set_option maxRecDepth 20000 in
theorem gX5_stands_X5_isIn : GoodIn wsX5_stands (va_wsS RX5 63 yX5_isIn wsX5_isIn) := goodIn_app (goodIn_of _ (by decide +kernel)) ggX5_stands_X5_isIn
theorem dX5_stands_0 : decode cX5_stands 0 = .ok (.aload_n 0, 1) := by decide +kernel
theorem dX5_stands_1 : decode cX5_stands 1 = .ok (.iload_n 1, 1) := by decide +kernel
theorem dX5_stands_2 : decode cX5_stands 2 = .ok (.invokevirtual 59, 3) := by decide +kernel
theorem dX5_stands_5 : decode cX5_stands 5 = .ok (.ifCond .eq 18, 3) := by decide +kernel
theorem dX5_stands_8 : decode cX5_stands 8 = .ok (.aload_n 0, 1) := by decide +kernel
theorem dX5_stands_9 : decode cX5_stands 9 = .ok (.getfield 40, 3) := by decide +kernel
theorem dX5_stands_12 : decode cX5_stands 12 = .ok (.iload_n 1, 1) := by decide +kernel
theorem dX5_stands_13 : decode cX5_stands 13 = .ok (.invokestatic 63, 3) := by decide +kernel
theorem dX5_stands_16 : decode cX5_stands 16 = .ok (.ifCond .eq 7, 3) := by decide +kernel
theorem dX5_stands_19 : decode cX5_stands 19 = .ok (.iconst 1, 1) := by decide +kernel
theorem dX5_stands_20 : decode cX5_stands 20 = .ok (.goto 4, 3) := by decide +kernel
theorem dX5_stands_23 : decode cX5_stands 23 = .ok (.iconst 0, 1) := by decide +kernel
theorem dX5_stands_24 : decode cX5_stands 24 = .ok (.ireturn, 1) := by decide +kernel
theorem dX5_hasRoom_0 : decode cX5_hasRoom 0 = .ok (.aload_n 0, 1) := by decide +kernel
theorem dX5_hasRoom_1 : decode cX5_hasRoom 1 = .ok (.getfield 36, 3) := by decide +kernel
theorem dX5_hasRoom_4 : decode cX5_hasRoom 4 = .ok (.bipush 12, 2) := by decide +kernel
theorem dX5_hasRoom_6 : decode cX5_hasRoom 6 = .ok (.if_icmp .ge 7, 3) := by decide +kernel
theorem dX5_hasRoom_9 : decode cX5_hasRoom 9 = .ok (.iconst 1, 1) := by decide +kernel
theorem dX5_hasRoom_10 : decode cX5_hasRoom 10 = .ok (.goto 4, 3) := by decide +kernel
theorem dX5_hasRoom_13 : decode cX5_hasRoom 13 = .ok (.iconst 0, 1) := by decide +kernel
theorem dX5_hasRoom_14 : decode cX5_hasRoom 14 = .ok (.ireturn, 1) := by decide +kernel
theorem dX5_cameCount_0 : decode cX5_cameCount 0 = .ok (.aload_n 0, 1) := by decide +kernel
theorem dX5_cameCount_1 : decode cX5_cameCount 1 = .ok (.getfield 36, 3) := by decide +kernel
theorem dX5_cameCount_4 : decode cX5_cameCount 4 = .ok (.ireturn, 1) := by decide +kernel
set_option maxRecDepth 20000 in
theorem ggX5_standingCount_J6_bitCount_0f7a4 : GoodIn wsX5_standingCount wsJ6_bitCount_0f7a4 := goodIn_r _ [5, 6, 7, 8] (by decide +kernel) (by decide +kernel)
set_option maxRecDepth 20000 in
theorem gX5_standingCount_J6_bitCount_0f7a4 : GoodIn wsX5_standingCount (va_wsS RX5 67 yJ6_bitCount_0f7a4 wsJ6_bitCount_0f7a4) := goodIn_app (goodIn_of _ (by decide +kernel)) ggX5_standingCount_J6_bitCount_0f7a4
theorem dX5_standingCount_0 : decode cX5_standingCount 0 = .ok (.aload_n 0, 1) := by decide +kernel
theorem dX5_standingCount_1 : decode cX5_standingCount 1 = .ok (.getfield 40, 3) := by decide +kernel
theorem dX5_standingCount_4 : decode cX5_standingCount 4 = .ok (.invokestatic 67, 3) := by decide +kernel
theorem dX5_standingCount_7 : decode cX5_standingCount 7 = .ok (.ireturn, 1) := by decide +kernel
theorem dX5_standingBits_0 : decode cX5_standingBits 0 = .ok (.aload_n 0, 1) := by decide +kernel
theorem dX5_standingBits_1 : decode cX5_standingBits 1 = .ok (.getfield 40, 3) := by decide +kernel
theorem dX5_standingBits_4 : decode cX5_standingBits 4 = .ok (.ireturn, 1) := by decide +kernel
theorem dX5_sumsLaw_0 : decode cX5_sumsLaw 0 = .ok (.aload_n 0, 1) := by decide +kernel
theorem dX5_sumsLaw_1 : decode cX5_sumsLaw 1 = .ok (.getfield 53, 3) := by decide +kernel
theorem dX5_sumsLaw_4 : decode cX5_sumsLaw 4 = .ok (.ireturn, 1) := by decide +kernel
theorem dX5_fallsLaw_0 : decode cX5_fallsLaw 0 = .ok (.aload_n 0, 1) := by decide +kernel
theorem dX5_fallsLaw_1 : decode cX5_fallsLaw 1 = .ok (.getfield 56, 3) := by decide +kernel
theorem dX5_fallsLaw_4 : decode cX5_fallsLaw 4 = .ok (.ireturn, 1) := by decide +kernel
theorem dX5_changeLaws_0 : decode cX5_changeLaws 0 = .ok (.iload_n 1, 1) := by decide +kernel
theorem dX5_changeLaws_1 : decode cX5_changeLaws 1 = .ok (.ifCond .lt 17, 3) := by decide +kernel
theorem dX5_changeLaws_4 : decode cX5_changeLaws 4 = .ok (.iload_n 1, 1) := by decide +kernel
theorem dX5_changeLaws_5 : decode cX5_changeLaws 5 = .ok (.iconst 2, 1) := by decide +kernel
theorem dX5_changeLaws_6 : decode cX5_changeLaws 6 = .ok (.if_icmp .gt 12, 3) := by decide +kernel
theorem dX5_changeLaws_9 : decode cX5_changeLaws 9 = .ok (.iload_n 2, 1) := by decide +kernel
theorem dX5_changeLaws_10 : decode cX5_changeLaws 10 = .ok (.ifCond .lt 8, 3) := by decide +kernel
theorem dX5_changeLaws_13 : decode cX5_changeLaws 13 = .ok (.iload_n 2, 1) := by decide +kernel
theorem dX5_changeLaws_14 : decode cX5_changeLaws 14 = .ok (.iconst 1, 1) := by decide +kernel
theorem dX5_changeLaws_15 : decode cX5_changeLaws 15 = .ok (.if_icmp .le 5, 3) := by decide +kernel
theorem dX5_changeLaws_18 : decode cX5_changeLaws 18 = .ok (.iconst 0, 1) := by decide +kernel
theorem dX5_changeLaws_19 : decode cX5_changeLaws 19 = .ok (.ireturn, 1) := by decide +kernel
theorem dX5_changeLaws_20 : decode cX5_changeLaws 20 = .ok (.aload_n 0, 1) := by decide +kernel
theorem dX5_changeLaws_21 : decode cX5_changeLaws 21 = .ok (.iload_n 1, 1) := by decide +kernel
theorem dX5_changeLaws_22 : decode cX5_changeLaws 22 = .ok (.putfield 53, 3) := by decide +kernel
theorem dX5_changeLaws_25 : decode cX5_changeLaws 25 = .ok (.aload_n 0, 1) := by decide +kernel
theorem dX5_changeLaws_26 : decode cX5_changeLaws 26 = .ok (.iload_n 2, 1) := by decide +kernel
theorem dX5_changeLaws_27 : decode cX5_changeLaws 27 = .ok (.putfield 56, 3) := by decide +kernel
theorem dX5_changeLaws_30 : decode cX5_changeLaws 30 = .ok (.iconst 1, 1) := by decide +kernel
theorem dX5_changeLaws_31 : decode cX5_changeLaws 31 = .ok (.ireturn, 1) := by decide +kernel
set_option maxRecDepth 20000 in
theorem ggX5_tell_X5_has : GoodIn wsX5_tell wsX5_has := goodIn_r _ [13, 14, 18, 19, 20, 21, 22, 23, 24, 25, 26, 27, 28] (by decide +kernel) (by decide +kernel)
set_option maxRecDepth 20000 in
theorem gX5_tell_X5_has : GoodIn wsX5_tell (wsV RX5 59 RX5 yX5_has wsX5_has) := goodIn_app (goodIn_of _ (by decide +kernel)) ggX5_tell_X5_has
set_option maxRecDepth 20000 in
theorem ggX5_tell_X5_isIn : GoodIn wsX5_tell wsX5_isIn := goodIn_r _ [17] (by decide +kernel) (by decide +kernel)
set_option maxRecDepth 20000 in
theorem gX5_tell_X5_isIn : GoodIn wsX5_tell (va_wsS RX5 63 yX5_isIn wsX5_isIn) := goodIn_app (goodIn_of _ (by decide +kernel)) ggX5_tell_X5_isIn
theorem dX5_tell_0 : decode cX5_tell 0 = .ok (.aload_n 0, 1) := by decide +kernel
theorem dX5_tell_1 : decode cX5_tell 1 = .ok (.iload_n 1, 1) := by decide +kernel
theorem dX5_tell_2 : decode cX5_tell 2 = .ok (.invokevirtual 59, 3) := by decide +kernel
theorem dX5_tell_5 : decode cX5_tell 5 = .ok (.ifCond .ne 5, 3) := by decide +kernel
theorem dX5_tell_8 : decode cX5_tell 8 = .ok (.iconst (-1), 1) := by decide +kernel
theorem dX5_tell_9 : decode cX5_tell 9 = .ok (.ireturn, 1) := by decide +kernel
theorem dX5_tell_10 : decode cX5_tell 10 = .ok (.iload_n 2, 1) := by decide +kernel
theorem dX5_tell_11 : decode cX5_tell 11 = .ok (.tableswitch 111 0 7 #[45, 52, 59, 66, 73, 80, 97, 104], 45) := by decide +kernel
theorem dX5_tell_56 : decode cX5_tell 56 = .ok (.aload_n 0, 1) := by decide +kernel
theorem dX5_tell_57 : decode cX5_tell 57 = .ok (.getfield 9, 3) := by decide +kernel
theorem dX5_tell_60 : decode cX5_tell 60 = .ok (.iload_n 1, 1) := by decide +kernel
theorem dX5_tell_61 : decode cX5_tell 61 = .ok (.iaload, 1) := by decide +kernel
theorem dX5_tell_62 : decode cX5_tell 62 = .ok (.ireturn, 1) := by decide +kernel
theorem dX5_tell_63 : decode cX5_tell 63 = .ok (.aload_n 0, 1) := by decide +kernel
theorem dX5_tell_64 : decode cX5_tell 64 = .ok (.getfield 15, 3) := by decide +kernel
theorem dX5_tell_67 : decode cX5_tell 67 = .ok (.iload_n 1, 1) := by decide +kernel
theorem dX5_tell_68 : decode cX5_tell 68 = .ok (.iaload, 1) := by decide +kernel
theorem dX5_tell_69 : decode cX5_tell 69 = .ok (.ireturn, 1) := by decide +kernel
theorem dX5_tell_70 : decode cX5_tell 70 = .ok (.aload_n 0, 1) := by decide +kernel
theorem dX5_tell_71 : decode cX5_tell 71 = .ok (.getfield 18, 3) := by decide +kernel
theorem dX5_tell_74 : decode cX5_tell 74 = .ok (.iload_n 1, 1) := by decide +kernel
theorem dX5_tell_75 : decode cX5_tell 75 = .ok (.iaload, 1) := by decide +kernel
theorem dX5_tell_76 : decode cX5_tell 76 = .ok (.ireturn, 1) := by decide +kernel
theorem dX5_tell_77 : decode cX5_tell 77 = .ok (.aload_n 0, 1) := by decide +kernel
theorem dX5_tell_78 : decode cX5_tell 78 = .ok (.getfield 21, 3) := by decide +kernel
theorem dX5_tell_81 : decode cX5_tell 81 = .ok (.iload_n 1, 1) := by decide +kernel
theorem dX5_tell_82 : decode cX5_tell 82 = .ok (.iaload, 1) := by decide +kernel
theorem dX5_tell_83 : decode cX5_tell 83 = .ok (.ireturn, 1) := by decide +kernel
theorem dX5_tell_84 : decode cX5_tell 84 = .ok (.aload_n 0, 1) := by decide +kernel
theorem dX5_tell_85 : decode cX5_tell 85 = .ok (.getfield 24, 3) := by decide +kernel
theorem dX5_tell_88 : decode cX5_tell 88 = .ok (.iload_n 1, 1) := by decide +kernel
theorem dX5_tell_89 : decode cX5_tell 89 = .ok (.iaload, 1) := by decide +kernel
theorem dX5_tell_90 : decode cX5_tell 90 = .ok (.ireturn, 1) := by decide +kernel
theorem dX5_tell_91 : decode cX5_tell 91 = .ok (.aload_n 0, 1) := by decide +kernel
theorem dX5_tell_92 : decode cX5_tell 92 = .ok (.getfield 40, 3) := by decide +kernel
theorem dX5_tell_95 : decode cX5_tell 95 = .ok (.iload_n 1, 1) := by decide +kernel
theorem dX5_tell_96 : decode cX5_tell 96 = .ok (.invokestatic 63, 3) := by decide +kernel
theorem dX5_tell_99 : decode cX5_tell 99 = .ok (.ifCond .eq 7, 3) := by decide +kernel
theorem dX5_tell_102 : decode cX5_tell 102 = .ok (.iconst 1, 1) := by decide +kernel
theorem dX5_tell_103 : decode cX5_tell 103 = .ok (.goto 4, 3) := by decide +kernel
theorem dX5_tell_106 : decode cX5_tell 106 = .ok (.iconst 0, 1) := by decide +kernel
theorem dX5_tell_107 : decode cX5_tell 107 = .ok (.ireturn, 1) := by decide +kernel
theorem dX5_tell_108 : decode cX5_tell 108 = .ok (.aload_n 0, 1) := by decide +kernel
theorem dX5_tell_109 : decode cX5_tell 109 = .ok (.getfield 27, 3) := by decide +kernel
theorem dX5_tell_112 : decode cX5_tell 112 = .ok (.iload_n 1, 1) := by decide +kernel
theorem dX5_tell_113 : decode cX5_tell 113 = .ok (.iaload, 1) := by decide +kernel
theorem dX5_tell_114 : decode cX5_tell 114 = .ok (.ireturn, 1) := by decide +kernel
theorem dX5_tell_115 : decode cX5_tell 115 = .ok (.aload_n 0, 1) := by decide +kernel
theorem dX5_tell_116 : decode cX5_tell 116 = .ok (.getfield 30, 3) := by decide +kernel
theorem dX5_tell_119 : decode cX5_tell 119 = .ok (.iload_n 1, 1) := by decide +kernel
theorem dX5_tell_120 : decode cX5_tell 120 = .ok (.iaload, 1) := by decide +kernel
theorem dX5_tell_121 : decode cX5_tell 121 = .ok (.ireturn, 1) := by decide +kernel
theorem dX5_tell_122 : decode cX5_tell 122 = .ok (.bipush (-2), 2) := by decide +kernel
theorem dX5_tell_124 : decode cX5_tell 124 = .ok (.ireturn, 1) := by decide +kernel
set_option maxRecDepth 20000 in
theorem ggX5_greatest_X5_isIn : GoodIn wsX5_greatest wsX5_isIn := goodIn_r _ [11] (by decide +kernel) (by decide +kernel)
set_option maxRecDepth 20000 in
theorem gX5_greatest_X5_isIn : GoodIn wsX5_greatest (va_wsS RX5 63 yX5_isIn wsX5_isIn) := goodIn_app (goodIn_of _ (by decide +kernel)) ggX5_greatest_X5_isIn
theorem dX5_greatest_0 : decode cX5_greatest 0 = .ok (.iconst 0, 1) := by decide +kernel
theorem dX5_greatest_1 : decode cX5_greatest 1 = .ok (.istore_n 1, 1) := by decide +kernel
theorem dX5_greatest_2 : decode cX5_greatest 2 = .ok (.iconst 0, 1) := by decide +kernel
theorem dX5_greatest_3 : decode cX5_greatest 3 = .ok (.istore_n 2, 1) := by decide +kernel
theorem dX5_greatest_4 : decode cX5_greatest 4 = .ok (.iload_n 2, 1) := by decide +kernel
theorem dX5_greatest_5 : decode cX5_greatest 5 = .ok (.aload_n 0, 1) := by decide +kernel
theorem dX5_greatest_6 : decode cX5_greatest 6 = .ok (.getfield 36, 3) := by decide +kernel
theorem dX5_greatest_9 : decode cX5_greatest 9 = .ok (.if_icmp .ge 31, 3) := by decide +kernel
theorem dX5_greatest_12 : decode cX5_greatest 12 = .ok (.aload_n 0, 1) := by decide +kernel
theorem dX5_greatest_13 : decode cX5_greatest 13 = .ok (.getfield 40, 3) := by decide +kernel
theorem dX5_greatest_16 : decode cX5_greatest 16 = .ok (.iload_n 2, 1) := by decide +kernel
theorem dX5_greatest_17 : decode cX5_greatest 17 = .ok (.invokestatic 63, 3) := by decide +kernel
theorem dX5_greatest_20 : decode cX5_greatest 20 = .ok (.ifCond .eq 14, 3) := by decide +kernel
theorem dX5_greatest_23 : decode cX5_greatest 23 = .ok (.iload_n 1, 1) := by decide +kernel
theorem dX5_greatest_24 : decode cX5_greatest 24 = .ok (.aload_n 0, 1) := by decide +kernel
theorem dX5_greatest_25 : decode cX5_greatest 25 = .ok (.getfield 18, 3) := by decide +kernel
theorem dX5_greatest_28 : decode cX5_greatest 28 = .ok (.iload_n 2, 1) := by decide +kernel
theorem dX5_greatest_29 : decode cX5_greatest 29 = .ok (.iaload, 1) := by decide +kernel
theorem dX5_greatest_30 : decode cX5_greatest 30 = .ok (.invokestatic 73, 3) := by decide +kernel
theorem dX5_greatest_33 : decode cX5_greatest 33 = .ok (.istore_n 1, 1) := by decide +kernel
theorem dX5_greatest_34 : decode cX5_greatest 34 = .ok (.iinc 2 1, 3) := by decide +kernel
theorem dX5_greatest_37 : decode cX5_greatest 37 = .ok (.goto (-33), 3) := by decide +kernel
theorem dX5_greatest_40 : decode cX5_greatest 40 = .ok (.iload_n 1, 1) := by decide +kernel
theorem dX5_greatest_41 : decode cX5_greatest 41 = .ok (.ireturn, 1) := by decide +kernel
theorem dX5_allEarned_0 : decode cX5_allEarned 0 = .ok (.iconst 0, 1) := by decide +kernel
theorem dX5_allEarned_1 : decode cX5_allEarned 1 = .ok (.istore_n 1, 1) := by decide +kernel
theorem dX5_allEarned_2 : decode cX5_allEarned 2 = .ok (.iconst 0, 1) := by decide +kernel
theorem dX5_allEarned_3 : decode cX5_allEarned 3 = .ok (.istore_n 2, 1) := by decide +kernel
theorem dX5_allEarned_4 : decode cX5_allEarned 4 = .ok (.iload_n 2, 1) := by decide +kernel
theorem dX5_allEarned_5 : decode cX5_allEarned 5 = .ok (.aload_n 0, 1) := by decide +kernel
theorem dX5_allEarned_6 : decode cX5_allEarned 6 = .ok (.getfield 36, 3) := by decide +kernel
theorem dX5_allEarned_9 : decode cX5_allEarned 9 = .ok (.if_icmp .ge 18, 3) := by decide +kernel
theorem dX5_allEarned_12 : decode cX5_allEarned 12 = .ok (.iload_n 1, 1) := by decide +kernel
theorem dX5_allEarned_13 : decode cX5_allEarned 13 = .ok (.aload_n 0, 1) := by decide +kernel
theorem dX5_allEarned_14 : decode cX5_allEarned 14 = .ok (.getfield 30, 3) := by decide +kernel
theorem dX5_allEarned_17 : decode cX5_allEarned 17 = .ok (.iload_n 2, 1) := by decide +kernel
theorem dX5_allEarned_18 : decode cX5_allEarned 18 = .ok (.iaload, 1) := by decide +kernel
theorem dX5_allEarned_19 : decode cX5_allEarned 19 = .ok (.iadd, 1) := by decide +kernel
theorem dX5_allEarned_20 : decode cX5_allEarned 20 = .ok (.istore_n 1, 1) := by decide +kernel
theorem dX5_allEarned_21 : decode cX5_allEarned 21 = .ok (.iinc 2 1, 3) := by decide +kernel
theorem dX5_allEarned_24 : decode cX5_allEarned 24 = .ok (.goto (-20), 3) := by decide +kernel
theorem dX5_allEarned_27 : decode cX5_allEarned 27 = .ok (.iload_n 1, 1) := by decide +kernel
theorem dX5_allEarned_28 : decode cX5_allEarned 28 = .ok (.ireturn, 1) := by decide +kernel
set_option maxRecDepth 20000 in
theorem ggX5_isThere_X5_isIn : GoodIn wsX5_isThere wsX5_isIn := goodIn_r _ [7] (by decide +kernel) (by decide +kernel)
set_option maxRecDepth 20000 in
theorem gX5_isThere_X5_isIn : GoodIn wsX5_isThere (va_wsS RX5 63 yX5_isIn wsX5_isIn) := goodIn_app (goodIn_of _ (by decide +kernel)) ggX5_isThere_X5_isIn
theorem dX5_isThere_0 : decode cX5_isThere 0 = .ok (.iconst 0, 1) := by decide +kernel
theorem dX5_isThere_1 : decode cX5_isThere 1 = .ok (.istore_n 2, 1) := by decide +kernel
theorem dX5_isThere_2 : decode cX5_isThere 2 = .ok (.iload_n 2, 1) := by decide +kernel
theorem dX5_isThere_3 : decode cX5_isThere 3 = .ok (.aload_n 0, 1) := by decide +kernel
theorem dX5_isThere_4 : decode cX5_isThere 4 = .ok (.getfield 36, 3) := by decide +kernel
theorem dX5_isThere_7 : decode cX5_isThere 7 = .ok (.if_icmp .ge 32, 3) := by decide +kernel
theorem dX5_isThere_10 : decode cX5_isThere 10 = .ok (.aload_n 0, 1) := by decide +kernel
theorem dX5_isThere_11 : decode cX5_isThere 11 = .ok (.getfield 40, 3) := by decide +kernel
theorem dX5_isThere_14 : decode cX5_isThere 14 = .ok (.iload_n 2, 1) := by decide +kernel
theorem dX5_isThere_15 : decode cX5_isThere 15 = .ok (.invokestatic 63, 3) := by decide +kernel
theorem dX5_isThere_18 : decode cX5_isThere 18 = .ok (.ifCond .eq 15, 3) := by decide +kernel
theorem dX5_isThere_21 : decode cX5_isThere 21 = .ok (.aload_n 0, 1) := by decide +kernel
theorem dX5_isThere_22 : decode cX5_isThere 22 = .ok (.getfield 18, 3) := by decide +kernel
theorem dX5_isThere_25 : decode cX5_isThere 25 = .ok (.iload_n 2, 1) := by decide +kernel
theorem dX5_isThere_26 : decode cX5_isThere 26 = .ok (.iaload, 1) := by decide +kernel
theorem dX5_isThere_27 : decode cX5_isThere 27 = .ok (.iload_n 1, 1) := by decide +kernel
theorem dX5_isThere_28 : decode cX5_isThere 28 = .ok (.if_icmp .ne 5, 3) := by decide +kernel
theorem dX5_isThere_31 : decode cX5_isThere 31 = .ok (.iconst 1, 1) := by decide +kernel
theorem dX5_isThere_32 : decode cX5_isThere 32 = .ok (.ireturn, 1) := by decide +kernel
theorem dX5_isThere_33 : decode cX5_isThere 33 = .ok (.iinc 2 1, 3) := by decide +kernel
theorem dX5_isThere_36 : decode cX5_isThere 36 = .ok (.goto (-34), 3) := by decide +kernel
theorem dX5_isThere_39 : decode cX5_isThere 39 = .ok (.iconst 0, 1) := by decide +kernel
theorem dX5_isThere_40 : decode cX5_isThere 40 = .ok (.ireturn, 1) := by decide +kernel
set_option maxRecDepth 20000 in
theorem ggX5_fee_X5_has : GoodIn wsX5_fee wsX5_has := goodIn_r _ [7, 8, 9, 10, 11, 12, 13, 14, 15, 16, 17, 18, 19] (by decide +kernel) (by decide +kernel)
set_option maxRecDepth 20000 in
theorem gX5_fee_X5_has : GoodIn wsX5_fee (wsV RX5 59 RX5 yX5_has wsX5_has) := goodIn_app (goodIn_of _ (by decide +kernel)) ggX5_fee_X5_has
theorem dX5_fee_0 : decode cX5_fee 0 = .ok (.aload_n 0, 1) := by decide +kernel
theorem dX5_fee_1 : decode cX5_fee 1 = .ok (.iload_n 1, 1) := by decide +kernel
theorem dX5_fee_2 : decode cX5_fee 2 = .ok (.invokevirtual 59, 3) := by decide +kernel
theorem dX5_fee_5 : decode cX5_fee 5 = .ok (.ifCond .ne 5, 3) := by decide +kernel
theorem dX5_fee_8 : decode cX5_fee 8 = .ok (.iconst 0, 1) := by decide +kernel
theorem dX5_fee_9 : decode cX5_fee 9 = .ok (.ireturn, 1) := by decide +kernel
theorem dX5_fee_10 : decode cX5_fee 10 = .ok (.aload_n 0, 1) := by decide +kernel
theorem dX5_fee_11 : decode cX5_fee 11 = .ok (.getfield 9, 3) := by decide +kernel
theorem dX5_fee_14 : decode cX5_fee 14 = .ok (.iload_n 1, 1) := by decide +kernel
theorem dX5_fee_15 : decode cX5_fee 15 = .ok (.iaload, 1) := by decide +kernel
theorem dX5_fee_16 : decode cX5_fee 16 = .ok (.lookupswitch 46 #[(2, 28), (3, 35)], 28) := by decide +kernel
theorem dX5_fee_44 : decode cX5_fee 44 = .ok (.aload_n 0, 1) := by decide +kernel
theorem dX5_fee_45 : decode cX5_fee 45 = .ok (.getfield 15, 3) := by decide +kernel
theorem dX5_fee_48 : decode cX5_fee 48 = .ok (.iload_n 1, 1) := by decide +kernel
theorem dX5_fee_49 : decode cX5_fee 49 = .ok (.iaload, 1) := by decide +kernel
theorem dX5_fee_50 : decode cX5_fee 50 = .ok (.ireturn, 1) := by decide +kernel
theorem dX5_fee_51 : decode cX5_fee 51 = .ok (.iconst 2, 1) := by decide +kernel
theorem dX5_fee_52 : decode cX5_fee 52 = .ok (.aload_n 0, 1) := by decide +kernel
theorem dX5_fee_53 : decode cX5_fee 53 = .ok (.getfield 15, 3) := by decide +kernel
theorem dX5_fee_56 : decode cX5_fee 56 = .ok (.iload_n 1, 1) := by decide +kernel
theorem dX5_fee_57 : decode cX5_fee 57 = .ok (.iaload, 1) := by decide +kernel
theorem dX5_fee_58 : decode cX5_fee 58 = .ok (.imul, 1) := by decide +kernel
theorem dX5_fee_59 : decode cX5_fee 59 = .ok (.iconst 1, 1) := by decide +kernel
theorem dX5_fee_60 : decode cX5_fee 60 = .ok (.iadd, 1) := by decide +kernel
theorem dX5_fee_61 : decode cX5_fee 61 = .ok (.ireturn, 1) := by decide +kernel
theorem dX5_fee_62 : decode cX5_fee 62 = .ok (.iconst 0, 1) := by decide +kernel
theorem dX5_fee_63 : decode cX5_fee 63 = .ok (.ireturn, 1) := by decide +kernel
set_option maxRecDepth 20000 in
theorem ggX5_mayBe_X5_stands : GoodIn wsX5_mayBe wsX5_stands := goodIn_r _ [6, 7, 8, 9, 10, 5, 11, 12, 13, 14, 15, 36, 37, 38, 39, 40, 41, 42, 43, 44, 45, 46] (by decide +kernel) (by decide +kernel)
set_option maxRecDepth 20000 in
theorem gX5_mayBe_X5_stands : GoodIn wsX5_mayBe (wsV RX5 79 RX5 yX5_stands wsX5_stands) := goodIn_app (goodIn_of _ (by decide +kernel)) ggX5_mayBe_X5_stands
set_option maxRecDepth 20000 in
theorem ggX5_mayBe_X5_isLawful : GoodIn wsX5_mayBe wsX5_isLawful := goodIn_r _ [19, 20, 7, 21, 22, 23, 24, 25, 36, 37, 38, 39, 40, 41, 42, 43, 44, 45, 46] (by decide +kernel) (by decide +kernel)
set_option maxRecDepth 20000 in
theorem gX5_mayBe_X5_isLawful : GoodIn wsX5_mayBe (wsV RX5 82 RX5 yX5_isLawful wsX5_isLawful) := goodIn_app (goodIn_of _ (by decide +kernel)) ggX5_mayBe_X5_isLawful
set_option maxRecDepth 20000 in
theorem ggX5_mayBe_X5_lends : GoodIn wsX5_mayBe wsX5_lends := goodIn_r _ [29, 30, 31, 8, 9, 10, 5, 11, 12, 36, 37, 38, 39, 40, 41, 42, 43, 44, 45, 46] (by decide +kernel) (by decide +kernel)
set_option maxRecDepth 20000 in
theorem gX5_mayBe_X5_lends : GoodIn wsX5_mayBe (wsV RX5 85 RX5 yX5_lends wsX5_lends) := goodIn_app (goodIn_of _ (by decide +kernel)) ggX5_mayBe_X5_lends
set_option maxRecDepth 20000 in
theorem ggX5_mayBe_X5_isThere : GoodIn wsX5_mayBe wsX5_isThere := goodIn_r _ [35, 12, 7, 1, 13, 14, 5, 15, 36, 37, 38, 39, 40, 41, 42, 43, 44, 45, 46] (by decide +kernel) (by decide +kernel)
set_option maxRecDepth 20000 in
theorem gX5_mayBe_X5_isThere : GoodIn wsX5_mayBe (wsV RX5 88 RX5 yX5_isThere wsX5_isThere) := goodIn_app (goodIn_of _ (by decide +kernel)) ggX5_mayBe_X5_isThere
theorem dX5_mayBe_0 : decode cX5_mayBe 0 = .ok (.aload_n 0, 1) := by decide +kernel
theorem dX5_mayBe_1 : decode cX5_mayBe 1 = .ok (.iload_n 1, 1) := by decide +kernel
theorem dX5_mayBe_2 : decode cX5_mayBe 2 = .ok (.invokevirtual 79, 3) := by decide +kernel
theorem dX5_mayBe_5 : decode cX5_mayBe 5 = .ok (.ifCond .eq 20, 3) := by decide +kernel
theorem dX5_mayBe_8 : decode cX5_mayBe 8 = .ok (.aload_n 0, 1) := by decide +kernel
theorem dX5_mayBe_9 : decode cX5_mayBe 9 = .ok (.iload_n 2, 1) := by decide +kernel
theorem dX5_mayBe_10 : decode cX5_mayBe 10 = .ok (.invokevirtual 79, 3) := by decide +kernel
theorem dX5_mayBe_13 : decode cX5_mayBe 13 = .ok (.ifCond .eq 12, 3) := by decide +kernel
theorem dX5_mayBe_16 : decode cX5_mayBe 16 = .ok (.aload_n 0, 1) := by decide +kernel
theorem dX5_mayBe_17 : decode cX5_mayBe 17 = .ok (.iload_n 1, 1) := by decide +kernel
theorem dX5_mayBe_18 : decode cX5_mayBe 18 = .ok (.iload_n 2, 1) := by decide +kernel
theorem dX5_mayBe_19 : decode cX5_mayBe 19 = .ok (.invokevirtual 82, 3) := by decide +kernel
theorem dX5_mayBe_22 : decode cX5_mayBe 22 = .ok (.ifCond .ne 5, 3) := by decide +kernel
theorem dX5_mayBe_25 : decode cX5_mayBe 25 = .ok (.iconst 0, 1) := by decide +kernel
theorem dX5_mayBe_26 : decode cX5_mayBe 26 = .ok (.ireturn, 1) := by decide +kernel
theorem dX5_mayBe_27 : decode cX5_mayBe 27 = .ok (.aload_n 0, 1) := by decide +kernel
theorem dX5_mayBe_28 : decode cX5_mayBe 28 = .ok (.getfield 18, 3) := by decide +kernel
theorem dX5_mayBe_31 : decode cX5_mayBe 31 = .ok (.iload_n 1, 1) := by decide +kernel
theorem dX5_mayBe_32 : decode cX5_mayBe 32 = .ok (.iaload, 1) := by decide +kernel
theorem dX5_mayBe_33 : decode cX5_mayBe 33 = .ok (.aload_n 0, 1) := by decide +kernel
theorem dX5_mayBe_34 : decode cX5_mayBe 34 = .ok (.getfield 18, 3) := by decide +kernel
theorem dX5_mayBe_37 : decode cX5_mayBe 37 = .ok (.iload_n 2, 1) := by decide +kernel
theorem dX5_mayBe_38 : decode cX5_mayBe 38 = .ok (.iaload, 1) := by decide +kernel
theorem dX5_mayBe_39 : decode cX5_mayBe 39 = .ok (.iadd, 1) := by decide +kernel
theorem dX5_mayBe_40 : decode cX5_mayBe 40 = .ok (.istore_n 3, 1) := by decide +kernel
theorem dX5_mayBe_41 : decode cX5_mayBe 41 = .ok (.iload_n 3, 1) := by decide +kernel
theorem dX5_mayBe_42 : decode cX5_mayBe 42 = .ok (.sipush 9999, 3) := by decide +kernel
theorem dX5_mayBe_45 : decode cX5_mayBe 45 = .ok (.if_icmp .gt 33, 3) := by decide +kernel
theorem dX5_mayBe_48 : decode cX5_mayBe 48 = .ok (.aload_n 0, 1) := by decide +kernel
theorem dX5_mayBe_49 : decode cX5_mayBe 49 = .ok (.iload_n 1, 1) := by decide +kernel
theorem dX5_mayBe_50 : decode cX5_mayBe 50 = .ok (.iload_n 3, 1) := by decide +kernel
theorem dX5_mayBe_51 : decode cX5_mayBe 51 = .ok (.invokevirtual 85, 3) := by decide +kernel
theorem dX5_mayBe_54 : decode cX5_mayBe 54 = .ok (.ifCond .eq 24, 3) := by decide +kernel
theorem dX5_mayBe_57 : decode cX5_mayBe 57 = .ok (.aload_n 0, 1) := by decide +kernel
theorem dX5_mayBe_58 : decode cX5_mayBe 58 = .ok (.iload_n 2, 1) := by decide +kernel
theorem dX5_mayBe_59 : decode cX5_mayBe 59 = .ok (.iload_n 3, 1) := by decide +kernel
theorem dX5_mayBe_60 : decode cX5_mayBe 60 = .ok (.invokevirtual 85, 3) := by decide +kernel
theorem dX5_mayBe_63 : decode cX5_mayBe 63 = .ok (.ifCond .eq 15, 3) := by decide +kernel
theorem dX5_mayBe_66 : decode cX5_mayBe 66 = .ok (.aload_n 0, 1) := by decide +kernel
theorem dX5_mayBe_67 : decode cX5_mayBe 67 = .ok (.iload_n 3, 1) := by decide +kernel
theorem dX5_mayBe_68 : decode cX5_mayBe 68 = .ok (.invokevirtual 88, 3) := by decide +kernel
theorem dX5_mayBe_71 : decode cX5_mayBe 71 = .ok (.ifCond .ne 7, 3) := by decide +kernel
theorem dX5_mayBe_74 : decode cX5_mayBe 74 = .ok (.iconst 1, 1) := by decide +kernel
theorem dX5_mayBe_75 : decode cX5_mayBe 75 = .ok (.goto 4, 3) := by decide +kernel
theorem dX5_mayBe_78 : decode cX5_mayBe 78 = .ok (.iconst 0, 1) := by decide +kernel
theorem dX5_mayBe_79 : decode cX5_mayBe 79 = .ok (.ireturn, 1) := by decide +kernel
set_option maxRecDepth 20000 in
theorem ggX5_isLawful_J6_numberOfLeadingZeros_0f7a4 : GoodIn wsX5_isLawful wsJ6_numberOfLeadingZeros_0f7a4 := goodIn_r _ [6, 7] (by decide +kernel) (by decide +kernel)
set_option maxRecDepth 20000 in
theorem gX5_isLawful_J6_numberOfLeadingZeros_0f7a4 : GoodIn wsX5_isLawful (va_wsS RX5 91 yJ6_numberOfLeadingZeros_0f7a4 wsJ6_numberOfLeadingZeros_0f7a4) := goodIn_app (goodIn_of _ (by decide +kernel)) ggX5_isLawful_J6_numberOfLeadingZeros_0f7a4
theorem dX5_isLawful_0 : decode cX5_isLawful 0 = .ok (.aload_n 0, 1) := by decide +kernel
theorem dX5_isLawful_1 : decode cX5_isLawful 1 = .ok (.getfield 53, 3) := by decide +kernel
theorem dX5_isLawful_4 : decode cX5_isLawful 4 = .ok (.lookupswitch 66 #[(1, 28), (2, 55)], 28) := by decide +kernel
theorem dX5_isLawful_32 : decode cX5_isLawful 32 = .ok (.bipush 31, 2) := by decide +kernel
theorem dX5_isLawful_34 : decode cX5_isLawful 34 = .ok (.aload_n 0, 1) := by decide +kernel
theorem dX5_isLawful_35 : decode cX5_isLawful 35 = .ok (.getfield 40, 3) := by decide +kernel
theorem dX5_isLawful_38 : decode cX5_isLawful 38 = .ok (.invokestatic 91, 3) := by decide +kernel
theorem dX5_isLawful_41 : decode cX5_isLawful 41 = .ok (.isub, 1) := by decide +kernel
theorem dX5_isLawful_42 : decode cX5_isLawful 42 = .ok (.istore_n 3, 1) := by decide +kernel
theorem dX5_isLawful_43 : decode cX5_isLawful 43 = .ok (.iload_n 1, 1) := by decide +kernel
theorem dX5_isLawful_44 : decode cX5_isLawful 44 = .ok (.iload_n 3, 1) := by decide +kernel
theorem dX5_isLawful_45 : decode cX5_isLawful 45 = .ok (.if_icmp .eq 8, 3) := by decide +kernel
theorem dX5_isLawful_48 : decode cX5_isLawful 48 = .ok (.iload_n 2, 1) := by decide +kernel
theorem dX5_isLawful_49 : decode cX5_isLawful 49 = .ok (.iload_n 3, 1) := by decide +kernel
theorem dX5_isLawful_50 : decode cX5_isLawful 50 = .ok (.if_icmp .ne 7, 3) := by decide +kernel
theorem dX5_isLawful_53 : decode cX5_isLawful 53 = .ok (.iconst 1, 1) := by decide +kernel
theorem dX5_isLawful_54 : decode cX5_isLawful 54 = .ok (.goto 4, 3) := by decide +kernel
theorem dX5_isLawful_57 : decode cX5_isLawful 57 = .ok (.iconst 0, 1) := by decide +kernel
theorem dX5_isLawful_58 : decode cX5_isLawful 58 = .ok (.ireturn, 1) := by decide +kernel
theorem dX5_isLawful_59 : decode cX5_isLawful 59 = .ok (.iload_n 1, 1) := by decide +kernel
theorem dX5_isLawful_60 : decode cX5_isLawful 60 = .ok (.iload_n 2, 1) := by decide +kernel
theorem dX5_isLawful_61 : decode cX5_isLawful 61 = .ok (.if_icmp .ne 7, 3) := by decide +kernel
theorem dX5_isLawful_64 : decode cX5_isLawful 64 = .ok (.iconst 1, 1) := by decide +kernel
theorem dX5_isLawful_65 : decode cX5_isLawful 65 = .ok (.goto 4, 3) := by decide +kernel
theorem dX5_isLawful_68 : decode cX5_isLawful 68 = .ok (.iconst 0, 1) := by decide +kernel
theorem dX5_isLawful_69 : decode cX5_isLawful 69 = .ok (.ireturn, 1) := by decide +kernel
theorem dX5_isLawful_70 : decode cX5_isLawful 70 = .ok (.iconst 1, 1) := by decide +kernel
theorem dX5_isLawful_71 : decode cX5_isLawful 71 = .ok (.ireturn, 1) := by decide +kernel
set_option maxRecDepth 20000 in
theorem ggX5_lends_X5_has : GoodIn wsX5_lends wsX5_has := goodIn_r _ [7, 8, 9, 10, 11, 12, 13, 14, 15, 16, 17, 18, 19] (by decide +kernel) (by decide +kernel)
set_option maxRecDepth 20000 in
theorem gX5_lends_X5_has : GoodIn wsX5_lends (wsV RX5 59 RX5 yX5_has wsX5_has) := goodIn_app (goodIn_of _ (by decide +kernel)) ggX5_lends_X5_has
theorem dX5_lends_0 : decode cX5_lends 0 = .ok (.aload_n 0, 1) := by decide +kernel
theorem dX5_lends_1 : decode cX5_lends 1 = .ok (.iload_n 1, 1) := by decide +kernel
theorem dX5_lends_2 : decode cX5_lends 2 = .ok (.invokevirtual 59, 3) := by decide +kernel
theorem dX5_lends_5 : decode cX5_lends 5 = .ok (.ifCond .ne 5, 3) := by decide +kernel
theorem dX5_lends_8 : decode cX5_lends 8 = .ok (.iconst 0, 1) := by decide +kernel
theorem dX5_lends_9 : decode cX5_lends 9 = .ok (.ireturn, 1) := by decide +kernel
theorem dX5_lends_10 : decode cX5_lends 10 = .ok (.aload_n 0, 1) := by decide +kernel
theorem dX5_lends_11 : decode cX5_lends 11 = .ok (.getfield 9, 3) := by decide +kernel
theorem dX5_lends_14 : decode cX5_lends 14 = .ok (.iload_n 1, 1) := by decide +kernel
theorem dX5_lends_15 : decode cX5_lends 15 = .ok (.iaload, 1) := by decide +kernel
theorem dX5_lends_16 : decode cX5_lends 16 = .ok (.tableswitch 61 1 4 #[32, 61, 47, 59], 32) := by decide +kernel
theorem dX5_lends_48 : decode cX5_lends 48 = .ok (.aload_n 0, 1) := by decide +kernel
theorem dX5_lends_49 : decode cX5_lends 49 = .ok (.getfield 27, 3) := by decide +kernel
theorem dX5_lends_52 : decode cX5_lends 52 = .ok (.iload_n 1, 1) := by decide +kernel
theorem dX5_lends_53 : decode cX5_lends 53 = .ok (.iaload, 1) := by decide +kernel
theorem dX5_lends_54 : decode cX5_lends 54 = .ok (.ifCond .ne 7, 3) := by decide +kernel
theorem dX5_lends_57 : decode cX5_lends 57 = .ok (.iconst 1, 1) := by decide +kernel
theorem dX5_lends_58 : decode cX5_lends 58 = .ok (.goto 4, 3) := by decide +kernel
theorem dX5_lends_61 : decode cX5_lends 61 = .ok (.iconst 0, 1) := by decide +kernel
theorem dX5_lends_62 : decode cX5_lends 62 = .ok (.ireturn, 1) := by decide +kernel
theorem dX5_lends_63 : decode cX5_lends 63 = .ok (.iload_n 2, 1) := by decide +kernel
theorem dX5_lends_64 : decode cX5_lends 64 = .ok (.iconst 1, 1) := by decide +kernel
theorem dX5_lends_65 : decode cX5_lends 65 = .ok (.iand, 1) := by decide +kernel
theorem dX5_lends_66 : decode cX5_lends 66 = .ok (.ifCond .ne 7, 3) := by decide +kernel
theorem dX5_lends_69 : decode cX5_lends 69 = .ok (.iconst 1, 1) := by decide +kernel
theorem dX5_lends_70 : decode cX5_lends 70 = .ok (.goto 4, 3) := by decide +kernel
theorem dX5_lends_73 : decode cX5_lends 73 = .ok (.iconst 0, 1) := by decide +kernel
theorem dX5_lends_74 : decode cX5_lends 74 = .ok (.ireturn, 1) := by decide +kernel
theorem dX5_lends_75 : decode cX5_lends 75 = .ok (.iconst 0, 1) := by decide +kernel
theorem dX5_lends_76 : decode cX5_lends 76 = .ok (.ireturn, 1) := by decide +kernel
theorem dX5_lends_77 : decode cX5_lends 77 = .ok (.iconst 1, 1) := by decide +kernel
theorem dX5_lends_78 : decode cX5_lends 78 = .ok (.ireturn, 1) := by decide +kernel
set_option maxRecDepth 20000 in
theorem ggX5_build_X5_hasRoom : GoodIn wsX5_build wsX5_hasRoom := goodIn_r _ [6, 7, 67, 68, 69, 70, 71, 72, 73, 74, 75, 76, 77] (by decide +kernel) (by decide +kernel)
set_option maxRecDepth 20000 in
theorem gX5_build_X5_hasRoom : GoodIn wsX5_build (wsV RX5 94 RX5 yX5_hasRoom wsX5_hasRoom) := goodIn_app (goodIn_of _ (by decide +kernel)) ggX5_build_X5_hasRoom
set_option maxRecDepth 20000 in
theorem ggX5_build_X5_isKind : GoodIn wsX5_build wsX5_isKind := goodIn_r _ [10] (by decide +kernel) (by decide +kernel)
set_option maxRecDepth 20000 in
theorem gX5_build_X5_isKind : GoodIn wsX5_build (va_wsS RX5 98 yX5_isKind wsX5_isKind) := goodIn_app (goodIn_of _ (by decide +kernel)) ggX5_build_X5_isKind
set_option maxRecDepth 20000 in
theorem ggX5_build_X5_mayBe : GoodIn wsX5_build wsX5_mayBe := goodIn_r _ [14, 1, 15, 16, 17, 5, 18, 19, 20, 21, 22, 23, 7, 24, 25, 26, 27, 28, 29, 30, 31, 32, 33, 34, 35, 36, 37, 38, 39, 40, 41, 42, 43, 44, 45, 46, 67, 68, 69, 70, 71, 72, 73, 74, 75, 76, 77] (by decide +kernel) (by decide +kernel)
set_option maxRecDepth 20000 in
theorem gX5_build_X5_mayBe : GoodIn wsX5_build (wsV RX5 101 RX5 yX5_mayBe wsX5_mayBe) := goodIn_app (goodIn_of _ (by decide +kernel)) ggX5_build_X5_mayBe
set_option maxRecDepth 20000 in
theorem ggX5_build_X5_place : GoodIn wsX5_build wsX5_place := goodIn_r _ [50, 1, 7, 51, 52, 41, 53, 42, 54, 19, 2, 3, 4, 5, 6, 67, 68, 69, 70, 71, 72, 73, 74, 75, 76, 77] (by decide +kernel) (by decide +kernel)
set_option maxRecDepth 20000 in
theorem gX5_build_X5_place : GoodIn wsX5_build (wsV RX5 43 RX5 yX5_place wsX5_place) := goodIn_app (goodIn_of _ (by decide +kernel)) ggX5_build_X5_place
set_option maxRecDepth 20000 in
theorem ggX5_build_X5_use : GoodIn wsX5_build wsX5_use := goodIn_r _ [58, 42, 54, 20, 21, 22, 5, 23, 7, 59, 60, 61, 62, 41, 53, 67, 68, 69, 70, 71, 72, 73, 74, 75, 76, 77] (by decide +kernel) (by decide +kernel)
set_option maxRecDepth 20000 in
theorem gX5_build_X5_use : GoodIn wsX5_build (wsV RX5 104 RX5 yX5_use wsX5_use) := goodIn_app (goodIn_of _ (by decide +kernel)) ggX5_build_X5_use
set_option maxRecDepth 20000 in
theorem ggX5_build_X5_loseHut : GoodIn wsX5_build wsX5_loseHut := goodIn_r _ [66, 41, 19, 20, 21, 22, 5, 23, 7, 67, 68, 69, 70, 71, 72, 73, 74, 75, 76, 77] (by decide +kernel) (by decide +kernel)
set_option maxRecDepth 20000 in
theorem gX5_build_X5_loseHut : GoodIn wsX5_build (wsV RX5 108 RX5 yX5_loseHut wsX5_loseHut) := goodIn_app (goodIn_of _ (by decide +kernel)) ggX5_build_X5_loseHut
theorem dX5_build_0 : decode cX5_build 0 = .ok (.aload_n 0, 1) := by decide +kernel
theorem dX5_build_1 : decode cX5_build 1 = .ok (.invokevirtual 94, 3) := by decide +kernel
theorem dX5_build_4 : decode cX5_build 4 = .ok (.ifCond .eq 19, 3) := by decide +kernel
theorem dX5_build_7 : decode cX5_build 7 = .ok (.iload_n 3, 1) := by decide +kernel
theorem dX5_build_8 : decode cX5_build 8 = .ok (.invokestatic 98, 3) := by decide +kernel
theorem dX5_build_11 : decode cX5_build 11 = .ok (.ifCond .eq 12, 3) := by decide +kernel
theorem dX5_build_14 : decode cX5_build 14 = .ok (.aload_n 0, 1) := by decide +kernel
theorem dX5_build_15 : decode cX5_build 15 = .ok (.iload_n 1, 1) := by decide +kernel
theorem dX5_build_16 : decode cX5_build 16 = .ok (.iload_n 2, 1) := by decide +kernel
theorem dX5_build_17 : decode cX5_build 17 = .ok (.invokevirtual 101, 3) := by decide +kernel
theorem dX5_build_20 : decode cX5_build 20 = .ok (.ifCond .ne 5, 3) := by decide +kernel
theorem dX5_build_23 : decode cX5_build 23 = .ok (.iconst 0, 1) := by decide +kernel
theorem dX5_build_24 : decode cX5_build 24 = .ok (.ireturn, 1) := by decide +kernel
theorem dX5_build_25 : decode cX5_build 25 = .ok (.aload_n 0, 1) := by decide +kernel
theorem dX5_build_26 : decode cX5_build 26 = .ok (.aload_n 0, 1) := by decide +kernel
theorem dX5_build_27 : decode cX5_build 27 = .ok (.getfield 18, 3) := by decide +kernel
theorem dX5_build_30 : decode cX5_build 30 = .ok (.iload_n 1, 1) := by decide +kernel
theorem dX5_build_31 : decode cX5_build 31 = .ok (.iaload, 1) := by decide +kernel
theorem dX5_build_32 : decode cX5_build 32 = .ok (.aload_n 0, 1) := by decide +kernel
theorem dX5_build_33 : decode cX5_build 33 = .ok (.getfield 18, 3) := by decide +kernel
theorem dX5_build_36 : decode cX5_build 36 = .ok (.iload_n 2, 1) := by decide +kernel
theorem dX5_build_37 : decode cX5_build 37 = .ok (.iaload, 1) := by decide +kernel
theorem dX5_build_38 : decode cX5_build 38 = .ok (.iadd, 1) := by decide +kernel
theorem dX5_build_39 : decode cX5_build 39 = .ok (.iload_n 1, 1) := by decide +kernel
theorem dX5_build_40 : decode cX5_build 40 = .ok (.iload_n 2, 1) := by decide +kernel
theorem dX5_build_41 : decode cX5_build 41 = .ok (.iload_n 3, 1) := by decide +kernel
theorem dX5_build_42 : decode cX5_build 42 = .ok (.iload 4, 2) := by decide +kernel
theorem dX5_build_44 : decode cX5_build 44 = .ok (.invokevirtual 43, 3) := by decide +kernel
theorem dX5_build_47 : decode cX5_build 47 = .ok (.aload_n 0, 1) := by decide +kernel
theorem dX5_build_48 : decode cX5_build 48 = .ok (.iload_n 1, 1) := by decide +kernel
theorem dX5_build_49 : decode cX5_build 49 = .ok (.invokevirtual 104, 3) := by decide +kernel
theorem dX5_build_52 : decode cX5_build 52 = .ok (.aload_n 0, 1) := by decide +kernel
theorem dX5_build_53 : decode cX5_build 53 = .ok (.iload_n 2, 1) := by decide +kernel
theorem dX5_build_54 : decode cX5_build 54 = .ok (.invokevirtual 104, 3) := by decide +kernel
theorem dX5_build_57 : decode cX5_build 57 = .ok (.aload_n 0, 1) := by decide +kernel
theorem dX5_build_58 : decode cX5_build 58 = .ok (.iload_n 1, 1) := by decide +kernel
theorem dX5_build_59 : decode cX5_build 59 = .ok (.invokevirtual 108, 3) := by decide +kernel
theorem dX5_build_62 : decode cX5_build 62 = .ok (.aload_n 0, 1) := by decide +kernel
theorem dX5_build_63 : decode cX5_build 63 = .ok (.iload_n 2, 1) := by decide +kernel
theorem dX5_build_64 : decode cX5_build 64 = .ok (.invokevirtual 108, 3) := by decide +kernel
theorem dX5_build_67 : decode cX5_build 67 = .ok (.iconst 1, 1) := by decide +kernel
theorem dX5_build_68 : decode cX5_build 68 = .ok (.ireturn, 1) := by decide +kernel
set_option maxRecDepth 20000 in
theorem ggX5_place_X5_hasRoom : GoodIn wsX5_place wsX5_hasRoom := goodIn_r _ [14, 2, 15, 16, 17, 18, 19, 20, 21, 22, 23, 24, 25] (by decide +kernel) (by decide +kernel)
set_option maxRecDepth 20000 in
theorem gX5_place_X5_hasRoom : GoodIn wsX5_place (wsV RX5 94 RX5 yX5_hasRoom wsX5_hasRoom) := goodIn_app (goodIn_of _ (by decide +kernel)) ggX5_place_X5_hasRoom
theorem dX5_place_0 : decode cX5_place 0 = .ok (.aload_n 0, 1) := by decide +kernel
theorem dX5_place_1 : decode cX5_place 1 = .ok (.invokevirtual 94, 3) := by decide +kernel
theorem dX5_place_4 : decode cX5_place 4 = .ok (.ifCond .ne 4, 3) := by decide +kernel
theorem dX5_place_7 : decode cX5_place 7 = .ok (.return_, 1) := by decide +kernel
theorem dX5_place_8 : decode cX5_place 8 = .ok (.aload_n 0, 1) := by decide +kernel
theorem dX5_place_9 : decode cX5_place 9 = .ok (.getfield 18, 3) := by decide +kernel
theorem dX5_place_12 : decode cX5_place 12 = .ok (.aload_n 0, 1) := by decide +kernel
theorem dX5_place_13 : decode cX5_place 13 = .ok (.getfield 36, 3) := by decide +kernel
theorem dX5_place_16 : decode cX5_place 16 = .ok (.iload_n 1, 1) := by decide +kernel
theorem dX5_place_17 : decode cX5_place 17 = .ok (.iastore, 1) := by decide +kernel
theorem dX5_place_18 : decode cX5_place 18 = .ok (.aload_n 0, 1) := by decide +kernel
theorem dX5_place_19 : decode cX5_place 19 = .ok (.getfield 21, 3) := by decide +kernel
theorem dX5_place_22 : decode cX5_place 22 = .ok (.aload_n 0, 1) := by decide +kernel
theorem dX5_place_23 : decode cX5_place 23 = .ok (.getfield 36, 3) := by decide +kernel
theorem dX5_place_26 : decode cX5_place 26 = .ok (.iload_n 2, 1) := by decide +kernel
theorem dX5_place_27 : decode cX5_place 27 = .ok (.iastore, 1) := by decide +kernel
theorem dX5_place_28 : decode cX5_place 28 = .ok (.aload_n 0, 1) := by decide +kernel
theorem dX5_place_29 : decode cX5_place 29 = .ok (.getfield 24, 3) := by decide +kernel
theorem dX5_place_32 : decode cX5_place 32 = .ok (.aload_n 0, 1) := by decide +kernel
theorem dX5_place_33 : decode cX5_place 33 = .ok (.getfield 36, 3) := by decide +kernel
theorem dX5_place_36 : decode cX5_place 36 = .ok (.iload_n 3, 1) := by decide +kernel
theorem dX5_place_37 : decode cX5_place 37 = .ok (.iastore, 1) := by decide +kernel
theorem dX5_place_38 : decode cX5_place 38 = .ok (.aload_n 0, 1) := by decide +kernel
theorem dX5_place_39 : decode cX5_place 39 = .ok (.getfield 9, 3) := by decide +kernel
theorem dX5_place_42 : decode cX5_place 42 = .ok (.aload_n 0, 1) := by decide +kernel
theorem dX5_place_43 : decode cX5_place 43 = .ok (.getfield 36, 3) := by decide +kernel
theorem dX5_place_46 : decode cX5_place 46 = .ok (.iload 4, 2) := by decide +kernel
theorem dX5_place_48 : decode cX5_place 48 = .ok (.iastore, 1) := by decide +kernel
theorem dX5_place_49 : decode cX5_place 49 = .ok (.aload_n 0, 1) := by decide +kernel
theorem dX5_place_50 : decode cX5_place 50 = .ok (.getfield 15, 3) := by decide +kernel
theorem dX5_place_53 : decode cX5_place 53 = .ok (.aload_n 0, 1) := by decide +kernel
theorem dX5_place_54 : decode cX5_place 54 = .ok (.getfield 36, 3) := by decide +kernel
theorem dX5_place_57 : decode cX5_place 57 = .ok (.iload 5, 2) := by decide +kernel
theorem dX5_place_59 : decode cX5_place 59 = .ok (.iastore, 1) := by decide +kernel
theorem dX5_place_60 : decode cX5_place 60 = .ok (.aload_n 0, 1) := by decide +kernel
theorem dX5_place_61 : decode cX5_place 61 = .ok (.getfield 27, 3) := by decide +kernel
theorem dX5_place_64 : decode cX5_place 64 = .ok (.aload_n 0, 1) := by decide +kernel
theorem dX5_place_65 : decode cX5_place 65 = .ok (.getfield 36, 3) := by decide +kernel
theorem dX5_place_68 : decode cX5_place 68 = .ok (.iconst 0, 1) := by decide +kernel
theorem dX5_place_69 : decode cX5_place 69 = .ok (.iastore, 1) := by decide +kernel
theorem dX5_place_70 : decode cX5_place 70 = .ok (.aload_n 0, 1) := by decide +kernel
theorem dX5_place_71 : decode cX5_place 71 = .ok (.getfield 30, 3) := by decide +kernel
theorem dX5_place_74 : decode cX5_place 74 = .ok (.aload_n 0, 1) := by decide +kernel
theorem dX5_place_75 : decode cX5_place 75 = .ok (.getfield 36, 3) := by decide +kernel
theorem dX5_place_78 : decode cX5_place 78 = .ok (.iconst 0, 1) := by decide +kernel
theorem dX5_place_79 : decode cX5_place 79 = .ok (.iastore, 1) := by decide +kernel
theorem dX5_place_80 : decode cX5_place 80 = .ok (.aload_n 0, 1) := by decide +kernel
theorem dX5_place_81 : decode cX5_place 81 = .ok (.dup, 1) := by decide +kernel
theorem dX5_place_82 : decode cX5_place 82 = .ok (.getfield 40, 3) := by decide +kernel
theorem dX5_place_85 : decode cX5_place 85 = .ok (.iconst 1, 1) := by decide +kernel
theorem dX5_place_86 : decode cX5_place 86 = .ok (.aload_n 0, 1) := by decide +kernel
theorem dX5_place_87 : decode cX5_place 87 = .ok (.getfield 36, 3) := by decide +kernel
theorem dX5_place_90 : decode cX5_place 90 = .ok (.ishl, 1) := by decide +kernel
theorem dX5_place_91 : decode cX5_place 91 = .ok (.ior, 1) := by decide +kernel
theorem dX5_place_92 : decode cX5_place 92 = .ok (.putfield 40, 3) := by decide +kernel
theorem dX5_place_95 : decode cX5_place 95 = .ok (.aload_n 0, 1) := by decide +kernel
theorem dX5_place_96 : decode cX5_place 96 = .ok (.dup, 1) := by decide +kernel
theorem dX5_place_97 : decode cX5_place 97 = .ok (.getfield 36, 3) := by decide +kernel
theorem dX5_place_100 : decode cX5_place 100 = .ok (.iconst 1, 1) := by decide +kernel
theorem dX5_place_101 : decode cX5_place 101 = .ok (.iadd, 1) := by decide +kernel
theorem dX5_place_102 : decode cX5_place 102 = .ok (.putfield 36, 3) := by decide +kernel
theorem dX5_place_105 : decode cX5_place 105 = .ok (.return_, 1) := by decide +kernel
set_option maxRecDepth 20000 in
theorem ggX5_use_X5_has : GoodIn wsX5_use wsX5_has := goodIn_r _ [7, 8, 15, 16, 17, 18, 19, 20, 21, 22, 23, 24, 25] (by decide +kernel) (by decide +kernel)
set_option maxRecDepth 20000 in
theorem gX5_use_X5_has : GoodIn wsX5_use (wsV RX5 59 RX5 yX5_has wsX5_has) := goodIn_app (goodIn_of _ (by decide +kernel)) ggX5_use_X5_has
set_option maxRecDepth 20000 in
theorem ggX5_use_X5_fee : GoodIn wsX5_use wsX5_fee := goodIn_r _ [12, 13, 14, 3, 4, 5, 6, 7, 8, 15, 16, 17, 18, 19, 20, 21, 22, 23, 24, 25] (by decide +kernel) (by decide +kernel)
set_option maxRecDepth 20000 in
theorem gX5_use_X5_fee : GoodIn wsX5_use (wsV RX5 111 RX5 yX5_fee wsX5_fee) := goodIn_app (goodIn_of _ (by decide +kernel)) ggX5_use_X5_fee
theorem dX5_use_0 : decode cX5_use 0 = .ok (.aload_n 0, 1) := by decide +kernel
theorem dX5_use_1 : decode cX5_use 1 = .ok (.iload_n 1, 1) := by decide +kernel
theorem dX5_use_2 : decode cX5_use 2 = .ok (.invokevirtual 59, 3) := by decide +kernel
theorem dX5_use_5 : decode cX5_use 5 = .ok (.ifCond .eq 27, 3) := by decide +kernel
theorem dX5_use_8 : decode cX5_use 8 = .ok (.aload_n 0, 1) := by decide +kernel
theorem dX5_use_9 : decode cX5_use 9 = .ok (.getfield 27, 3) := by decide +kernel
theorem dX5_use_12 : decode cX5_use 12 = .ok (.iload_n 1, 1) := by decide +kernel
theorem dX5_use_13 : decode cX5_use 13 = .ok (.dup2, 1) := by decide +kernel
theorem dX5_use_14 : decode cX5_use 14 = .ok (.iaload, 1) := by decide +kernel
theorem dX5_use_15 : decode cX5_use 15 = .ok (.iconst 1, 1) := by decide +kernel
theorem dX5_use_16 : decode cX5_use 16 = .ok (.iadd, 1) := by decide +kernel
theorem dX5_use_17 : decode cX5_use 17 = .ok (.iastore, 1) := by decide +kernel
theorem dX5_use_18 : decode cX5_use 18 = .ok (.aload_n 0, 1) := by decide +kernel
theorem dX5_use_19 : decode cX5_use 19 = .ok (.getfield 30, 3) := by decide +kernel
theorem dX5_use_22 : decode cX5_use 22 = .ok (.iload_n 1, 1) := by decide +kernel
theorem dX5_use_23 : decode cX5_use 23 = .ok (.dup2, 1) := by decide +kernel
theorem dX5_use_24 : decode cX5_use 24 = .ok (.iaload, 1) := by decide +kernel
theorem dX5_use_25 : decode cX5_use 25 = .ok (.aload_n 0, 1) := by decide +kernel
theorem dX5_use_26 : decode cX5_use 26 = .ok (.iload_n 1, 1) := by decide +kernel
theorem dX5_use_27 : decode cX5_use 27 = .ok (.invokevirtual 111, 3) := by decide +kernel
theorem dX5_use_30 : decode cX5_use 30 = .ok (.iadd, 1) := by decide +kernel
theorem dX5_use_31 : decode cX5_use 31 = .ok (.iastore, 1) := by decide +kernel
theorem dX5_use_32 : decode cX5_use 32 = .ok (.return_, 1) := by decide +kernel
set_option maxRecDepth 20000 in
theorem ggX5_loseHut_X5_has : GoodIn wsX5_loseHut wsX5_has := goodIn_r _ [7, 8, 9, 10, 11, 12, 13, 14, 15, 16, 17, 18, 19] (by decide +kernel) (by decide +kernel)
set_option maxRecDepth 20000 in
theorem gX5_loseHut_X5_has : GoodIn wsX5_loseHut (wsV RX5 59 RX5 yX5_has wsX5_has) := goodIn_app (goodIn_of _ (by decide +kernel)) ggX5_loseHut_X5_has
theorem dX5_loseHut_0 : decode cX5_loseHut 0 = .ok (.aload_n 0, 1) := by decide +kernel
theorem dX5_loseHut_1 : decode cX5_loseHut 1 = .ok (.iload_n 1, 1) := by decide +kernel
theorem dX5_loseHut_2 : decode cX5_loseHut 2 = .ok (.invokevirtual 59, 3) := by decide +kernel
theorem dX5_loseHut_5 : decode cX5_loseHut 5 = .ok (.ifCond .eq 27, 3) := by decide +kernel
theorem dX5_loseHut_8 : decode cX5_loseHut 8 = .ok (.aload_n 0, 1) := by decide +kernel
theorem dX5_loseHut_9 : decode cX5_loseHut 9 = .ok (.getfield 9, 3) := by decide +kernel
theorem dX5_loseHut_12 : decode cX5_loseHut 12 = .ok (.iload_n 1, 1) := by decide +kernel
theorem dX5_loseHut_13 : decode cX5_loseHut 13 = .ok (.iaload, 1) := by decide +kernel
theorem dX5_loseHut_14 : decode cX5_loseHut 14 = .ok (.iconst 1, 1) := by decide +kernel
theorem dX5_loseHut_15 : decode cX5_loseHut 15 = .ok (.if_icmp .ne 17, 3) := by decide +kernel
theorem dX5_loseHut_18 : decode cX5_loseHut 18 = .ok (.aload_n 0, 1) := by decide +kernel
theorem dX5_loseHut_19 : decode cX5_loseHut 19 = .ok (.dup, 1) := by decide +kernel
theorem dX5_loseHut_20 : decode cX5_loseHut 20 = .ok (.getfield 40, 3) := by decide +kernel
theorem dX5_loseHut_23 : decode cX5_loseHut 23 = .ok (.iconst 1, 1) := by decide +kernel
theorem dX5_loseHut_24 : decode cX5_loseHut 24 = .ok (.iload_n 1, 1) := by decide +kernel
theorem dX5_loseHut_25 : decode cX5_loseHut 25 = .ok (.ishl, 1) := by decide +kernel
theorem dX5_loseHut_26 : decode cX5_loseHut 26 = .ok (.iconst (-1), 1) := by decide +kernel
theorem dX5_loseHut_27 : decode cX5_loseHut 27 = .ok (.ixor, 1) := by decide +kernel
theorem dX5_loseHut_28 : decode cX5_loseHut 28 = .ok (.iand, 1) := by decide +kernel
theorem dX5_loseHut_29 : decode cX5_loseHut 29 = .ok (.putfield 40, 3) := by decide +kernel
theorem dX5_loseHut_32 : decode cX5_loseHut 32 = .ok (.return_, 1) := by decide +kernel
set_option maxRecDepth 20000 in
theorem ggX5_fire_X5_fallsWith : GoodIn wsX5_fire wsX5_fallsWith := goodIn_r _ [6, 1, 7, 8, 9, 10, 11, 12, 13, 14, 5, 15, 16, 17, 18, 19, 20, 21, 22, 30, 31, 32, 33, 34, 35, 36, 37, 38, 39, 40] (by decide +kernel) (by decide +kernel)
set_option maxRecDepth 20000 in
theorem gX5_fire_X5_fallsWith : GoodIn wsX5_fire (wsV RX5 114 RX5 yX5_fallsWith wsX5_fallsWith) := goodIn_app (goodIn_of _ (by decide +kernel)) ggX5_fire_X5_fallsWith
set_option maxRecDepth 20000 in
theorem ggX5_fire_J6_bitCount_0f7a4 : GoodIn wsX5_fire wsJ6_bitCount_0f7a4 := goodIn_r _ [26, 27, 28, 29] (by decide +kernel) (by decide +kernel)
set_option maxRecDepth 20000 in
theorem gX5_fire_J6_bitCount_0f7a4 : GoodIn wsX5_fire (va_wsS RX5 67 yJ6_bitCount_0f7a4 wsJ6_bitCount_0f7a4) := goodIn_app (goodIn_of _ (by decide +kernel)) ggX5_fire_J6_bitCount_0f7a4
theorem dX5_fire_0 : decode cX5_fire 0 = .ok (.aload_n 0, 1) := by decide +kernel
theorem dX5_fire_1 : decode cX5_fire 1 = .ok (.iload_n 1, 1) := by decide +kernel
theorem dX5_fire_2 : decode cX5_fire 2 = .ok (.invokevirtual 114, 3) := by decide +kernel
theorem dX5_fire_5 : decode cX5_fire 5 = .ok (.istore_n 2, 1) := by decide +kernel
theorem dX5_fire_6 : decode cX5_fire 6 = .ok (.aload_n 0, 1) := by decide +kernel
theorem dX5_fire_7 : decode cX5_fire 7 = .ok (.dup, 1) := by decide +kernel
theorem dX5_fire_8 : decode cX5_fire 8 = .ok (.getfield 40, 3) := by decide +kernel
theorem dX5_fire_11 : decode cX5_fire 11 = .ok (.iload_n 2, 1) := by decide +kernel
theorem dX5_fire_12 : decode cX5_fire 12 = .ok (.iconst (-1), 1) := by decide +kernel
theorem dX5_fire_13 : decode cX5_fire 13 = .ok (.ixor, 1) := by decide +kernel
theorem dX5_fire_14 : decode cX5_fire 14 = .ok (.iand, 1) := by decide +kernel
theorem dX5_fire_15 : decode cX5_fire 15 = .ok (.putfield 40, 3) := by decide +kernel
theorem dX5_fire_18 : decode cX5_fire 18 = .ok (.iload_n 2, 1) := by decide +kernel
theorem dX5_fire_19 : decode cX5_fire 19 = .ok (.invokestatic 67, 3) := by decide +kernel
theorem dX5_fire_22 : decode cX5_fire 22 = .ok (.ireturn, 1) := by decide +kernel
set_option maxRecDepth 20000 in
theorem ggX5_fallsWith_X5_stands : GoodIn wsX5_fallsWith wsX5_stands := goodIn_r _ [11, 1, 12, 13, 14, 10, 15, 2, 16, 17, 18, 19, 20, 21, 22, 23, 24, 25, 26, 27, 28, 29] (by decide +kernel) (by decide +kernel)
set_option maxRecDepth 20000 in
theorem gX5_fallsWith_X5_stands : GoodIn wsX5_fallsWith (wsV RX5 79 RX5 yX5_stands wsX5_stands) := goodIn_app (goodIn_of _ (by decide +kernel)) ggX5_fallsWith_X5_stands
set_option maxRecDepth 20000 in
theorem ggX5_fallsWith_X5_isIn : GoodIn wsX5_fallsWith wsX5_isIn := goodIn_r _ [18] (by decide +kernel) (by decide +kernel)
set_option maxRecDepth 20000 in
theorem gX5_fallsWith_X5_isIn : GoodIn wsX5_fallsWith (va_wsS RX5 63 yX5_isIn wsX5_isIn) := goodIn_app (goodIn_of _ (by decide +kernel)) ggX5_fallsWith_X5_isIn
theorem dX5_fallsWith_0 : decode cX5_fallsWith 0 = .ok (.aload_n 0, 1) := by decide +kernel
theorem dX5_fallsWith_1 : decode cX5_fallsWith 1 = .ok (.iload_n 1, 1) := by decide +kernel
theorem dX5_fallsWith_2 : decode cX5_fallsWith 2 = .ok (.invokevirtual 79, 3) := by decide +kernel
theorem dX5_fallsWith_5 : decode cX5_fallsWith 5 = .ok (.ifCond .ne 5, 3) := by decide +kernel
theorem dX5_fallsWith_8 : decode cX5_fallsWith 8 = .ok (.iconst 0, 1) := by decide +kernel
theorem dX5_fallsWith_9 : decode cX5_fallsWith 9 = .ok (.ireturn, 1) := by decide +kernel
theorem dX5_fallsWith_10 : decode cX5_fallsWith 10 = .ok (.aload_n 0, 1) := by decide +kernel
theorem dX5_fallsWith_11 : decode cX5_fallsWith 11 = .ok (.getfield 40, 3) := by decide +kernel
theorem dX5_fallsWith_14 : decode cX5_fallsWith 14 = .ok (.iconst 1, 1) := by decide +kernel
theorem dX5_fallsWith_15 : decode cX5_fallsWith 15 = .ok (.iload_n 1, 1) := by decide +kernel
theorem dX5_fallsWith_16 : decode cX5_fallsWith 16 = .ok (.ishl, 1) := by decide +kernel
theorem dX5_fallsWith_17 : decode cX5_fallsWith 17 = .ok (.iconst (-1), 1) := by decide +kernel
theorem dX5_fallsWith_18 : decode cX5_fallsWith 18 = .ok (.ixor, 1) := by decide +kernel
theorem dX5_fallsWith_19 : decode cX5_fallsWith 19 = .ok (.iand, 1) := by decide +kernel
theorem dX5_fallsWith_20 : decode cX5_fallsWith 20 = .ok (.istore_n 2, 1) := by decide +kernel
theorem dX5_fallsWith_21 : decode cX5_fallsWith 21 = .ok (.iconst 1, 1) := by decide +kernel
theorem dX5_fallsWith_22 : decode cX5_fallsWith 22 = .ok (.istore_n 3, 1) := by decide +kernel
theorem dX5_fallsWith_23 : decode cX5_fallsWith 23 = .ok (.iload_n 3, 1) := by decide +kernel
theorem dX5_fallsWith_24 : decode cX5_fallsWith 24 = .ok (.aload_n 0, 1) := by decide +kernel
theorem dX5_fallsWith_25 : decode cX5_fallsWith 25 = .ok (.getfield 36, 3) := by decide +kernel
theorem dX5_fallsWith_28 : decode cX5_fallsWith 28 = .ok (.if_icmp .ge 73, 3) := by decide +kernel
theorem dX5_fallsWith_31 : decode cX5_fallsWith 31 = .ok (.aload_n 0, 1) := by decide +kernel
theorem dX5_fallsWith_32 : decode cX5_fallsWith 32 = .ok (.getfield 56, 3) := by decide +kernel
theorem dX5_fallsWith_35 : decode cX5_fallsWith 35 = .ok (.iconst 1, 1) := by decide +kernel
theorem dX5_fallsWith_36 : decode cX5_fallsWith 36 = .ok (.if_icmp .eq 13, 3) := by decide +kernel
theorem dX5_fallsWith_39 : decode cX5_fallsWith 39 = .ok (.aload_n 0, 1) := by decide +kernel
theorem dX5_fallsWith_40 : decode cX5_fallsWith 40 = .ok (.getfield 9, 3) := by decide +kernel
theorem dX5_fallsWith_43 : decode cX5_fallsWith 43 = .ok (.iload_n 3, 1) := by decide +kernel
theorem dX5_fallsWith_44 : decode cX5_fallsWith 44 = .ok (.iaload, 1) := by decide +kernel
theorem dX5_fallsWith_45 : decode cX5_fallsWith 45 = .ok (.iconst 5, 1) := by decide +kernel
theorem dX5_fallsWith_46 : decode cX5_fallsWith 46 = .ok (.if_icmp .ne 7, 3) := by decide +kernel
theorem dX5_fallsWith_49 : decode cX5_fallsWith 49 = .ok (.iconst 1, 1) := by decide +kernel
theorem dX5_fallsWith_50 : decode cX5_fallsWith 50 = .ok (.goto 4, 3) := by decide +kernel
theorem dX5_fallsWith_53 : decode cX5_fallsWith 53 = .ok (.iconst 0, 1) := by decide +kernel
theorem dX5_fallsWith_54 : decode cX5_fallsWith 54 = .ok (.istore 4, 2) := by decide +kernel
theorem dX5_fallsWith_56 : decode cX5_fallsWith 56 = .ok (.iload 4, 2) := by decide +kernel
theorem dX5_fallsWith_58 : decode cX5_fallsWith 58 = .ok (.ifCond .eq 37, 3) := by decide +kernel
theorem dX5_fallsWith_61 : decode cX5_fallsWith 61 = .ok (.iload_n 2, 1) := by decide +kernel
theorem dX5_fallsWith_62 : decode cX5_fallsWith 62 = .ok (.aload_n 0, 1) := by decide +kernel
theorem dX5_fallsWith_63 : decode cX5_fallsWith 63 = .ok (.getfield 21, 3) := by decide +kernel
theorem dX5_fallsWith_66 : decode cX5_fallsWith 66 = .ok (.iload_n 3, 1) := by decide +kernel
theorem dX5_fallsWith_67 : decode cX5_fallsWith 67 = .ok (.iaload, 1) := by decide +kernel
theorem dX5_fallsWith_68 : decode cX5_fallsWith 68 = .ok (.invokestatic 63, 3) := by decide +kernel
theorem dX5_fallsWith_71 : decode cX5_fallsWith 71 = .ok (.ifCond .eq 16, 3) := by decide +kernel
theorem dX5_fallsWith_74 : decode cX5_fallsWith 74 = .ok (.iload_n 2, 1) := by decide +kernel
theorem dX5_fallsWith_75 : decode cX5_fallsWith 75 = .ok (.aload_n 0, 1) := by decide +kernel
theorem dX5_fallsWith_76 : decode cX5_fallsWith 76 = .ok (.getfield 24, 3) := by decide +kernel
theorem dX5_fallsWith_79 : decode cX5_fallsWith 79 = .ok (.iload_n 3, 1) := by decide +kernel
theorem dX5_fallsWith_80 : decode cX5_fallsWith 80 = .ok (.iaload, 1) := by decide +kernel
theorem dX5_fallsWith_81 : decode cX5_fallsWith 81 = .ok (.invokestatic 63, 3) := by decide +kernel
theorem dX5_fallsWith_84 : decode cX5_fallsWith 84 = .ok (.ifCond .ne 11, 3) := by decide +kernel
theorem dX5_fallsWith_87 : decode cX5_fallsWith 87 = .ok (.iload_n 2, 1) := by decide +kernel
theorem dX5_fallsWith_88 : decode cX5_fallsWith 88 = .ok (.iconst 1, 1) := by decide +kernel
theorem dX5_fallsWith_89 : decode cX5_fallsWith 89 = .ok (.iload_n 3, 1) := by decide +kernel
theorem dX5_fallsWith_90 : decode cX5_fallsWith 90 = .ok (.ishl, 1) := by decide +kernel
theorem dX5_fallsWith_91 : decode cX5_fallsWith 91 = .ok (.iconst (-1), 1) := by decide +kernel
theorem dX5_fallsWith_92 : decode cX5_fallsWith 92 = .ok (.ixor, 1) := by decide +kernel
theorem dX5_fallsWith_93 : decode cX5_fallsWith 93 = .ok (.iand, 1) := by decide +kernel
theorem dX5_fallsWith_94 : decode cX5_fallsWith 94 = .ok (.istore_n 2, 1) := by decide +kernel
theorem dX5_fallsWith_95 : decode cX5_fallsWith 95 = .ok (.iinc 3 1, 3) := by decide +kernel
theorem dX5_fallsWith_98 : decode cX5_fallsWith 98 = .ok (.goto (-75), 3) := by decide +kernel
theorem dX5_fallsWith_101 : decode cX5_fallsWith 101 = .ok (.aload_n 0, 1) := by decide +kernel
theorem dX5_fallsWith_102 : decode cX5_fallsWith 102 = .ok (.getfield 40, 3) := by decide +kernel
theorem dX5_fallsWith_105 : decode cX5_fallsWith 105 = .ok (.iload_n 2, 1) := by decide +kernel
theorem dX5_fallsWith_106 : decode cX5_fallsWith 106 = .ok (.iconst (-1), 1) := by decide +kernel
theorem dX5_fallsWith_107 : decode cX5_fallsWith 107 = .ok (.ixor, 1) := by decide +kernel
theorem dX5_fallsWith_108 : decode cX5_fallsWith 108 = .ok (.iand, 1) := by decide +kernel
theorem dX5_fallsWith_109 : decode cX5_fallsWith 109 = .ok (.ireturn, 1) := by decide +kernel
set_option maxRecDepth 20000 in
theorem ggX5_aheadOf_X5_has : GoodIn wsX5_aheadOf wsX5_has := goodIn_r _ [7, 8, 21, 22, 23, 24, 25, 26, 27, 28, 29, 30, 31] (by decide +kernel) (by decide +kernel)
set_option maxRecDepth 20000 in
theorem gX5_aheadOf_X5_has : GoodIn wsX5_aheadOf (wsV RX5 59 RX5 yX5_has wsX5_has) := goodIn_app (goodIn_of _ (by decide +kernel)) ggX5_aheadOf_X5_has
set_option maxRecDepth 20000 in
theorem ggX5_aheadOf_X5_bitOf : GoodIn wsX5_aheadOf wsX5_bitOf := goodIn_r _ [12, 13, 14, 15, 6, 16, 17, 3, 4, 5, 7, 8, 18, 19, 20, 21, 22, 23, 24, 25, 26, 27, 28, 29, 30, 31] (by decide +kernel) (by decide +kernel)
set_option maxRecDepth 20000 in
theorem gX5_aheadOf_X5_bitOf : GoodIn wsX5_aheadOf (wsV RX5 117 RX5 yX5_bitOf wsX5_bitOf) := goodIn_app (goodIn_of _ (by decide +kernel)) ggX5_aheadOf_X5_bitOf
theorem dX5_aheadOf_0 : decode cX5_aheadOf 0 = .ok (.aload_n 0, 1) := by decide +kernel
theorem dX5_aheadOf_1 : decode cX5_aheadOf 1 = .ok (.iload_n 1, 1) := by decide +kernel
theorem dX5_aheadOf_2 : decode cX5_aheadOf 2 = .ok (.invokevirtual 59, 3) := by decide +kernel
theorem dX5_aheadOf_5 : decode cX5_aheadOf 5 = .ok (.ifCond .ne 5, 3) := by decide +kernel
theorem dX5_aheadOf_8 : decode cX5_aheadOf 8 = .ok (.iconst 0, 1) := by decide +kernel
theorem dX5_aheadOf_9 : decode cX5_aheadOf 9 = .ok (.ireturn, 1) := by decide +kernel
theorem dX5_aheadOf_10 : decode cX5_aheadOf 10 = .ok (.aload_n 0, 1) := by decide +kernel
theorem dX5_aheadOf_11 : decode cX5_aheadOf 11 = .ok (.aload_n 0, 1) := by decide +kernel
theorem dX5_aheadOf_12 : decode cX5_aheadOf 12 = .ok (.getfield 21, 3) := by decide +kernel
theorem dX5_aheadOf_15 : decode cX5_aheadOf 15 = .ok (.iload_n 1, 1) := by decide +kernel
theorem dX5_aheadOf_16 : decode cX5_aheadOf 16 = .ok (.iaload, 1) := by decide +kernel
theorem dX5_aheadOf_17 : decode cX5_aheadOf 17 = .ok (.invokevirtual 117, 3) := by decide +kernel
theorem dX5_aheadOf_20 : decode cX5_aheadOf 20 = .ok (.aload_n 0, 1) := by decide +kernel
theorem dX5_aheadOf_21 : decode cX5_aheadOf 21 = .ok (.aload_n 0, 1) := by decide +kernel
theorem dX5_aheadOf_22 : decode cX5_aheadOf 22 = .ok (.getfield 24, 3) := by decide +kernel
theorem dX5_aheadOf_25 : decode cX5_aheadOf 25 = .ok (.iload_n 1, 1) := by decide +kernel
theorem dX5_aheadOf_26 : decode cX5_aheadOf 26 = .ok (.iaload, 1) := by decide +kernel
theorem dX5_aheadOf_27 : decode cX5_aheadOf 27 = .ok (.invokevirtual 117, 3) := by decide +kernel
theorem dX5_aheadOf_30 : decode cX5_aheadOf 30 = .ok (.ior, 1) := by decide +kernel
theorem dX5_aheadOf_31 : decode cX5_aheadOf 31 = .ok (.ireturn, 1) := by decide +kernel
set_option maxRecDepth 20000 in
theorem ggX5_bitOf_X5_stands : GoodIn wsX5_bitOf wsX5_stands := goodIn_r _ [5, 6, 7, 8, 9, 4, 10, 11, 12, 13, 14, 15, 16, 17, 18, 19, 20, 21, 22, 23, 24, 25] (by decide +kernel) (by decide +kernel)
set_option maxRecDepth 20000 in
theorem gX5_bitOf_X5_stands : GoodIn wsX5_bitOf (wsV RX5 79 RX5 yX5_stands wsX5_stands) := goodIn_app (goodIn_of _ (by decide +kernel)) ggX5_bitOf_X5_stands
theorem dX5_bitOf_0 : decode cX5_bitOf 0 = .ok (.aload_n 0, 1) := by decide +kernel
theorem dX5_bitOf_1 : decode cX5_bitOf 1 = .ok (.iload_n 1, 1) := by decide +kernel
theorem dX5_bitOf_2 : decode cX5_bitOf 2 = .ok (.invokevirtual 79, 3) := by decide +kernel
theorem dX5_bitOf_5 : decode cX5_bitOf 5 = .ok (.ifCond .eq 9, 3) := by decide +kernel
theorem dX5_bitOf_8 : decode cX5_bitOf 8 = .ok (.iconst 1, 1) := by decide +kernel
theorem dX5_bitOf_9 : decode cX5_bitOf 9 = .ok (.iload_n 1, 1) := by decide +kernel
theorem dX5_bitOf_10 : decode cX5_bitOf 10 = .ok (.ishl, 1) := by decide +kernel
theorem dX5_bitOf_11 : decode cX5_bitOf 11 = .ok (.goto 4, 3) := by decide +kernel
theorem dX5_bitOf_14 : decode cX5_bitOf 14 = .ok (.iconst 0, 1) := by decide +kernel
theorem dX5_bitOf_15 : decode cX5_bitOf 15 = .ok (.ireturn, 1) := by decide +kernel
set_option maxRecDepth 20000 in
theorem ggX5_comesNext_X5_hasRoom : GoodIn wsX5_comesNext wsX5_hasRoom := goodIn_r _ [7, 1, 44, 45, 46, 47, 48, 49, 50, 51, 52, 53, 54] (by decide +kernel) (by decide +kernel)
set_option maxRecDepth 20000 in
theorem gX5_comesNext_X5_hasRoom : GoodIn wsX5_comesNext (wsV RX5 94 RX5 yX5_hasRoom wsX5_hasRoom) := goodIn_app (goodIn_of _ (by decide +kernel)) ggX5_comesNext_X5_hasRoom
set_option maxRecDepth 20000 in
theorem ggX5_comesNext_X5_mayBe : GoodIn wsX5_comesNext wsX5_mayBe := goodIn_r _ [11, 2, 12, 13, 14, 6, 15, 16, 17, 18, 19, 20, 1, 21, 22, 23, 24, 25, 26, 27, 28, 29, 30, 31, 32, 33, 34, 35, 36, 37, 38, 39, 40, 41, 42, 43, 44, 45, 46, 47, 48, 49, 50, 51, 52, 53, 54] (by decide +kernel) (by decide +kernel)
set_option maxRecDepth 20000 in
theorem gX5_comesNext_X5_mayBe : GoodIn wsX5_comesNext (wsV RX5 101 RX5 yX5_mayBe wsX5_mayBe) := goodIn_app (goodIn_of _ (by decide +kernel)) ggX5_comesNext_X5_mayBe
theorem dX5_comesNext_0 : decode cX5_comesNext 0 = .ok (.aload_n 0, 1) := by decide +kernel
theorem dX5_comesNext_1 : decode cX5_comesNext 1 = .ok (.invokevirtual 94, 3) := by decide +kernel
theorem dX5_comesNext_4 : decode cX5_comesNext 4 = .ok (.ifCond .ne 5, 3) := by decide +kernel
theorem dX5_comesNext_7 : decode cX5_comesNext 7 = .ok (.iconst 0, 1) := by decide +kernel
theorem dX5_comesNext_8 : decode cX5_comesNext 8 = .ok (.ireturn, 1) := by decide +kernel
theorem dX5_comesNext_9 : decode cX5_comesNext 9 = .ok (.iconst 0, 1) := by decide +kernel
theorem dX5_comesNext_10 : decode cX5_comesNext 10 = .ok (.istore_n 2, 1) := by decide +kernel
theorem dX5_comesNext_11 : decode cX5_comesNext 11 = .ok (.iload_n 2, 1) := by decide +kernel
theorem dX5_comesNext_12 : decode cX5_comesNext 12 = .ok (.aload_n 0, 1) := by decide +kernel
theorem dX5_comesNext_13 : decode cX5_comesNext 13 = .ok (.getfield 36, 3) := by decide +kernel
theorem dX5_comesNext_16 : decode cX5_comesNext 16 = .ok (.if_icmp .ge 53, 3) := by decide +kernel
theorem dX5_comesNext_19 : decode cX5_comesNext 19 = .ok (.iload_n 2, 1) := by decide +kernel
theorem dX5_comesNext_20 : decode cX5_comesNext 20 = .ok (.istore_n 3, 1) := by decide +kernel
theorem dX5_comesNext_21 : decode cX5_comesNext 21 = .ok (.iload_n 3, 1) := by decide +kernel
theorem dX5_comesNext_22 : decode cX5_comesNext 22 = .ok (.aload_n 0, 1) := by decide +kernel
theorem dX5_comesNext_23 : decode cX5_comesNext 23 = .ok (.getfield 36, 3) := by decide +kernel
theorem dX5_comesNext_26 : decode cX5_comesNext 26 = .ok (.if_icmp .ge 37, 3) := by decide +kernel
theorem dX5_comesNext_29 : decode cX5_comesNext 29 = .ok (.aload_n 0, 1) := by decide +kernel
theorem dX5_comesNext_30 : decode cX5_comesNext 30 = .ok (.getfield 18, 3) := by decide +kernel
theorem dX5_comesNext_33 : decode cX5_comesNext 33 = .ok (.iload_n 2, 1) := by decide +kernel
theorem dX5_comesNext_34 : decode cX5_comesNext 34 = .ok (.iaload, 1) := by decide +kernel
theorem dX5_comesNext_35 : decode cX5_comesNext 35 = .ok (.aload_n 0, 1) := by decide +kernel
theorem dX5_comesNext_36 : decode cX5_comesNext 36 = .ok (.getfield 18, 3) := by decide +kernel
theorem dX5_comesNext_39 : decode cX5_comesNext 39 = .ok (.iload_n 3, 1) := by decide +kernel
theorem dX5_comesNext_40 : decode cX5_comesNext 40 = .ok (.iaload, 1) := by decide +kernel
theorem dX5_comesNext_41 : decode cX5_comesNext 41 = .ok (.iadd, 1) := by decide +kernel
theorem dX5_comesNext_42 : decode cX5_comesNext 42 = .ok (.iload_n 1, 1) := by decide +kernel
theorem dX5_comesNext_43 : decode cX5_comesNext 43 = .ok (.if_icmp .ne 14, 3) := by decide +kernel
theorem dX5_comesNext_46 : decode cX5_comesNext 46 = .ok (.aload_n 0, 1) := by decide +kernel
theorem dX5_comesNext_47 : decode cX5_comesNext 47 = .ok (.iload_n 2, 1) := by decide +kernel
theorem dX5_comesNext_48 : decode cX5_comesNext 48 = .ok (.iload_n 3, 1) := by decide +kernel
theorem dX5_comesNext_49 : decode cX5_comesNext 49 = .ok (.invokevirtual 101, 3) := by decide +kernel
theorem dX5_comesNext_52 : decode cX5_comesNext 52 = .ok (.ifCond .eq 5, 3) := by decide +kernel
theorem dX5_comesNext_55 : decode cX5_comesNext 55 = .ok (.iconst 1, 1) := by decide +kernel
theorem dX5_comesNext_56 : decode cX5_comesNext 56 = .ok (.ireturn, 1) := by decide +kernel
theorem dX5_comesNext_57 : decode cX5_comesNext 57 = .ok (.iinc 3 1, 3) := by decide +kernel
theorem dX5_comesNext_60 : decode cX5_comesNext 60 = .ok (.goto (-39), 3) := by decide +kernel
theorem dX5_comesNext_63 : decode cX5_comesNext 63 = .ok (.iinc 2 1, 3) := by decide +kernel
theorem dX5_comesNext_66 : decode cX5_comesNext 66 = .ok (.goto (-55), 3) := by decide +kernel
theorem dX5_comesNext_69 : decode cX5_comesNext 69 = .ok (.iconst 0, 1) := by decide +kernel
theorem dX5_comesNext_70 : decode cX5_comesNext 70 = .ok (.ireturn, 1) := by decide +kernel
theorem dX5_isIn_0 : decode cX5_isIn 0 = .ok (.iload_n 1, 1) := by decide +kernel
theorem dX5_isIn_1 : decode cX5_isIn 1 = .ok (.ifCond .lt 22, 3) := by decide +kernel
theorem dX5_isIn_4 : decode cX5_isIn 4 = .ok (.iload_n 1, 1) := by decide +kernel
theorem dX5_isIn_5 : decode cX5_isIn 5 = .ok (.bipush 12, 2) := by decide +kernel
theorem dX5_isIn_7 : decode cX5_isIn 7 = .ok (.if_icmp .ge 16, 3) := by decide +kernel
theorem dX5_isIn_10 : decode cX5_isIn 10 = .ok (.iload_n 0, 1) := by decide +kernel
theorem dX5_isIn_11 : decode cX5_isIn 11 = .ok (.iload_n 1, 1) := by decide +kernel
theorem dX5_isIn_12 : decode cX5_isIn 12 = .ok (.ishr, 1) := by decide +kernel
theorem dX5_isIn_13 : decode cX5_isIn 13 = .ok (.iconst 1, 1) := by decide +kernel
theorem dX5_isIn_14 : decode cX5_isIn 14 = .ok (.iand, 1) := by decide +kernel
theorem dX5_isIn_15 : decode cX5_isIn 15 = .ok (.iconst 1, 1) := by decide +kernel
theorem dX5_isIn_16 : decode cX5_isIn 16 = .ok (.if_icmp .ne 7, 3) := by decide +kernel
theorem dX5_isIn_19 : decode cX5_isIn 19 = .ok (.iconst 1, 1) := by decide +kernel
theorem dX5_isIn_20 : decode cX5_isIn 20 = .ok (.goto 4, 3) := by decide +kernel
theorem dX5_isIn_23 : decode cX5_isIn 23 = .ok (.iconst 0, 1) := by decide +kernel
theorem dX5_isIn_24 : decode cX5_isIn 24 = .ok (.ireturn, 1) := by decide +kernel
theorem dJ6_numberOfLeadingZeros_0f7a4_0 : decode cJ6_numberOfLeadingZeros_0f7a4 0 = .ok (.iload_n 0, 1) := by decide +kernel
theorem dJ6_numberOfLeadingZeros_0f7a4_1 : decode cJ6_numberOfLeadingZeros_0f7a4 1 = .ok (.ifCond .gt 14, 3) := by decide +kernel
theorem dJ6_numberOfLeadingZeros_0f7a4_4 : decode cJ6_numberOfLeadingZeros_0f7a4 4 = .ok (.iload_n 0, 1) := by decide +kernel
theorem dJ6_numberOfLeadingZeros_0f7a4_5 : decode cJ6_numberOfLeadingZeros_0f7a4 5 = .ok (.ifCond .ne 8, 3) := by decide +kernel
theorem dJ6_numberOfLeadingZeros_0f7a4_8 : decode cJ6_numberOfLeadingZeros_0f7a4 8 = .ok (.bipush 32, 2) := by decide +kernel
theorem dJ6_numberOfLeadingZeros_0f7a4_10 : decode cJ6_numberOfLeadingZeros_0f7a4 10 = .ok (.goto 4, 3) := by decide +kernel
theorem dJ6_numberOfLeadingZeros_0f7a4_13 : decode cJ6_numberOfLeadingZeros_0f7a4 13 = .ok (.iconst 0, 1) := by decide +kernel
theorem dJ6_numberOfLeadingZeros_0f7a4_14 : decode cJ6_numberOfLeadingZeros_0f7a4 14 = .ok (.ireturn, 1) := by decide +kernel
theorem dJ6_numberOfLeadingZeros_0f7a4_15 : decode cJ6_numberOfLeadingZeros_0f7a4 15 = .ok (.bipush 31, 2) := by decide +kernel
theorem dJ6_numberOfLeadingZeros_0f7a4_17 : decode cJ6_numberOfLeadingZeros_0f7a4 17 = .ok (.istore_n 1, 1) := by decide +kernel
theorem dJ6_numberOfLeadingZeros_0f7a4_18 : decode cJ6_numberOfLeadingZeros_0f7a4 18 = .ok (.iload_n 0, 1) := by decide +kernel
theorem dJ6_numberOfLeadingZeros_0f7a4_19 : decode cJ6_numberOfLeadingZeros_0f7a4 19 = .ok (.ldc_w 264, 3) := by decide +kernel
theorem dJ6_numberOfLeadingZeros_0f7a4_22 : decode cJ6_numberOfLeadingZeros_0f7a4 22 = .ok (.if_icmp .lt 11, 3) := by decide +kernel
theorem dJ6_numberOfLeadingZeros_0f7a4_25 : decode cJ6_numberOfLeadingZeros_0f7a4 25 = .ok (.iinc 1 (-16), 3) := by decide +kernel
theorem dJ6_numberOfLeadingZeros_0f7a4_28 : decode cJ6_numberOfLeadingZeros_0f7a4 28 = .ok (.iload_n 0, 1) := by decide +kernel
theorem dJ6_numberOfLeadingZeros_0f7a4_29 : decode cJ6_numberOfLeadingZeros_0f7a4 29 = .ok (.bipush 16, 2) := by decide +kernel
theorem dJ6_numberOfLeadingZeros_0f7a4_31 : decode cJ6_numberOfLeadingZeros_0f7a4 31 = .ok (.iushr, 1) := by decide +kernel
theorem dJ6_numberOfLeadingZeros_0f7a4_32 : decode cJ6_numberOfLeadingZeros_0f7a4 32 = .ok (.istore_n 0, 1) := by decide +kernel
theorem dJ6_numberOfLeadingZeros_0f7a4_33 : decode cJ6_numberOfLeadingZeros_0f7a4 33 = .ok (.iload_n 0, 1) := by decide +kernel
theorem dJ6_numberOfLeadingZeros_0f7a4_34 : decode cJ6_numberOfLeadingZeros_0f7a4 34 = .ok (.sipush 256, 3) := by decide +kernel
theorem dJ6_numberOfLeadingZeros_0f7a4_37 : decode cJ6_numberOfLeadingZeros_0f7a4 37 = .ok (.if_icmp .lt 11, 3) := by decide +kernel
theorem dJ6_numberOfLeadingZeros_0f7a4_40 : decode cJ6_numberOfLeadingZeros_0f7a4 40 = .ok (.iinc 1 (-8), 3) := by decide +kernel
theorem dJ6_numberOfLeadingZeros_0f7a4_43 : decode cJ6_numberOfLeadingZeros_0f7a4 43 = .ok (.iload_n 0, 1) := by decide +kernel
theorem dJ6_numberOfLeadingZeros_0f7a4_44 : decode cJ6_numberOfLeadingZeros_0f7a4 44 = .ok (.bipush 8, 2) := by decide +kernel
theorem dJ6_numberOfLeadingZeros_0f7a4_46 : decode cJ6_numberOfLeadingZeros_0f7a4 46 = .ok (.iushr, 1) := by decide +kernel
theorem dJ6_numberOfLeadingZeros_0f7a4_47 : decode cJ6_numberOfLeadingZeros_0f7a4 47 = .ok (.istore_n 0, 1) := by decide +kernel
theorem dJ6_numberOfLeadingZeros_0f7a4_48 : decode cJ6_numberOfLeadingZeros_0f7a4 48 = .ok (.iload_n 0, 1) := by decide +kernel
theorem dJ6_numberOfLeadingZeros_0f7a4_49 : decode cJ6_numberOfLeadingZeros_0f7a4 49 = .ok (.bipush 16, 2) := by decide +kernel
theorem dJ6_numberOfLeadingZeros_0f7a4_51 : decode cJ6_numberOfLeadingZeros_0f7a4 51 = .ok (.if_icmp .lt 10, 3) := by decide +kernel
theorem dJ6_numberOfLeadingZeros_0f7a4_54 : decode cJ6_numberOfLeadingZeros_0f7a4 54 = .ok (.iinc 1 (-4), 3) := by decide +kernel
theorem dJ6_numberOfLeadingZeros_0f7a4_57 : decode cJ6_numberOfLeadingZeros_0f7a4 57 = .ok (.iload_n 0, 1) := by decide +kernel
theorem dJ6_numberOfLeadingZeros_0f7a4_58 : decode cJ6_numberOfLeadingZeros_0f7a4 58 = .ok (.iconst 4, 1) := by decide +kernel
theorem dJ6_numberOfLeadingZeros_0f7a4_59 : decode cJ6_numberOfLeadingZeros_0f7a4 59 = .ok (.iushr, 1) := by decide +kernel
theorem dJ6_numberOfLeadingZeros_0f7a4_60 : decode cJ6_numberOfLeadingZeros_0f7a4 60 = .ok (.istore_n 0, 1) := by decide +kernel
theorem dJ6_numberOfLeadingZeros_0f7a4_61 : decode cJ6_numberOfLeadingZeros_0f7a4 61 = .ok (.iload_n 0, 1) := by decide +kernel
theorem dJ6_numberOfLeadingZeros_0f7a4_62 : decode cJ6_numberOfLeadingZeros_0f7a4 62 = .ok (.iconst 4, 1) := by decide +kernel
theorem dJ6_numberOfLeadingZeros_0f7a4_63 : decode cJ6_numberOfLeadingZeros_0f7a4 63 = .ok (.if_icmp .lt 10, 3) := by decide +kernel
theorem dJ6_numberOfLeadingZeros_0f7a4_66 : decode cJ6_numberOfLeadingZeros_0f7a4 66 = .ok (.iinc 1 (-2), 3) := by decide +kernel
theorem dJ6_numberOfLeadingZeros_0f7a4_69 : decode cJ6_numberOfLeadingZeros_0f7a4 69 = .ok (.iload_n 0, 1) := by decide +kernel
theorem dJ6_numberOfLeadingZeros_0f7a4_70 : decode cJ6_numberOfLeadingZeros_0f7a4 70 = .ok (.iconst 2, 1) := by decide +kernel
theorem dJ6_numberOfLeadingZeros_0f7a4_71 : decode cJ6_numberOfLeadingZeros_0f7a4 71 = .ok (.iushr, 1) := by decide +kernel
theorem dJ6_numberOfLeadingZeros_0f7a4_72 : decode cJ6_numberOfLeadingZeros_0f7a4 72 = .ok (.istore_n 0, 1) := by decide +kernel
theorem dJ6_numberOfLeadingZeros_0f7a4_73 : decode cJ6_numberOfLeadingZeros_0f7a4 73 = .ok (.iload_n 1, 1) := by decide +kernel
theorem dJ6_numberOfLeadingZeros_0f7a4_74 : decode cJ6_numberOfLeadingZeros_0f7a4 74 = .ok (.iload_n 0, 1) := by decide +kernel
theorem dJ6_numberOfLeadingZeros_0f7a4_75 : decode cJ6_numberOfLeadingZeros_0f7a4 75 = .ok (.iconst 1, 1) := by decide +kernel
theorem dJ6_numberOfLeadingZeros_0f7a4_76 : decode cJ6_numberOfLeadingZeros_0f7a4 76 = .ok (.iushr, 1) := by decide +kernel
theorem dJ6_numberOfLeadingZeros_0f7a4_77 : decode cJ6_numberOfLeadingZeros_0f7a4 77 = .ok (.isub, 1) := by decide +kernel
theorem dJ6_numberOfLeadingZeros_0f7a4_78 : decode cJ6_numberOfLeadingZeros_0f7a4 78 = .ok (.ireturn, 1) := by decide +kernel
theorem dJ6_numberOfTrailingZeros_0f7a4_0 : decode cJ6_numberOfTrailingZeros_0f7a4 0 = .ok (.iload_n 0, 1) := by decide +kernel
theorem dJ6_numberOfTrailingZeros_0f7a4_1 : decode cJ6_numberOfTrailingZeros_0f7a4 1 = .ok (.iconst (-1), 1) := by decide +kernel
theorem dJ6_numberOfTrailingZeros_0f7a4_2 : decode cJ6_numberOfTrailingZeros_0f7a4 2 = .ok (.ixor, 1) := by decide +kernel
theorem dJ6_numberOfTrailingZeros_0f7a4_3 : decode cJ6_numberOfTrailingZeros_0f7a4 3 = .ok (.iload_n 0, 1) := by decide +kernel
theorem dJ6_numberOfTrailingZeros_0f7a4_4 : decode cJ6_numberOfTrailingZeros_0f7a4 4 = .ok (.iconst 1, 1) := by decide +kernel
theorem dJ6_numberOfTrailingZeros_0f7a4_5 : decode cJ6_numberOfTrailingZeros_0f7a4 5 = .ok (.isub, 1) := by decide +kernel
theorem dJ6_numberOfTrailingZeros_0f7a4_6 : decode cJ6_numberOfTrailingZeros_0f7a4 6 = .ok (.iand, 1) := by decide +kernel
theorem dJ6_numberOfTrailingZeros_0f7a4_7 : decode cJ6_numberOfTrailingZeros_0f7a4 7 = .ok (.istore_n 0, 1) := by decide +kernel
theorem dJ6_numberOfTrailingZeros_0f7a4_8 : decode cJ6_numberOfTrailingZeros_0f7a4 8 = .ok (.iload_n 0, 1) := by decide +kernel
theorem dJ6_numberOfTrailingZeros_0f7a4_9 : decode cJ6_numberOfTrailingZeros_0f7a4 9 = .ok (.ifCond .gt 8, 3) := by decide +kernel
theorem dJ6_numberOfTrailingZeros_0f7a4_12 : decode cJ6_numberOfTrailingZeros_0f7a4 12 = .ok (.iload_n 0, 1) := by decide +kernel
theorem dJ6_numberOfTrailingZeros_0f7a4_13 : decode cJ6_numberOfTrailingZeros_0f7a4 13 = .ok (.bipush 32, 2) := by decide +kernel
theorem dJ6_numberOfTrailingZeros_0f7a4_15 : decode cJ6_numberOfTrailingZeros_0f7a4 15 = .ok (.iand, 1) := by decide +kernel
theorem dJ6_numberOfTrailingZeros_0f7a4_16 : decode cJ6_numberOfTrailingZeros_0f7a4 16 = .ok (.ireturn, 1) := by decide +kernel
theorem dJ6_numberOfTrailingZeros_0f7a4_17 : decode cJ6_numberOfTrailingZeros_0f7a4 17 = .ok (.iconst 1, 1) := by decide +kernel
theorem dJ6_numberOfTrailingZeros_0f7a4_18 : decode cJ6_numberOfTrailingZeros_0f7a4 18 = .ok (.istore_n 1, 1) := by decide +kernel
theorem dJ6_numberOfTrailingZeros_0f7a4_19 : decode cJ6_numberOfTrailingZeros_0f7a4 19 = .ok (.iload_n 0, 1) := by decide +kernel
theorem dJ6_numberOfTrailingZeros_0f7a4_20 : decode cJ6_numberOfTrailingZeros_0f7a4 20 = .ok (.ldc_w 264, 3) := by decide +kernel
theorem dJ6_numberOfTrailingZeros_0f7a4_23 : decode cJ6_numberOfTrailingZeros_0f7a4 23 = .ok (.if_icmp .le 11, 3) := by decide +kernel
theorem dJ6_numberOfTrailingZeros_0f7a4_26 : decode cJ6_numberOfTrailingZeros_0f7a4 26 = .ok (.iinc 1 16, 3) := by decide +kernel
theorem dJ6_numberOfTrailingZeros_0f7a4_29 : decode cJ6_numberOfTrailingZeros_0f7a4 29 = .ok (.iload_n 0, 1) := by decide +kernel
theorem dJ6_numberOfTrailingZeros_0f7a4_30 : decode cJ6_numberOfTrailingZeros_0f7a4 30 = .ok (.bipush 16, 2) := by decide +kernel
theorem dJ6_numberOfTrailingZeros_0f7a4_32 : decode cJ6_numberOfTrailingZeros_0f7a4 32 = .ok (.iushr, 1) := by decide +kernel
theorem dJ6_numberOfTrailingZeros_0f7a4_33 : decode cJ6_numberOfTrailingZeros_0f7a4 33 = .ok (.istore_n 0, 1) := by decide +kernel
theorem dJ6_numberOfTrailingZeros_0f7a4_34 : decode cJ6_numberOfTrailingZeros_0f7a4 34 = .ok (.iload_n 0, 1) := by decide +kernel
theorem dJ6_numberOfTrailingZeros_0f7a4_35 : decode cJ6_numberOfTrailingZeros_0f7a4 35 = .ok (.sipush 256, 3) := by decide +kernel
theorem dJ6_numberOfTrailingZeros_0f7a4_38 : decode cJ6_numberOfTrailingZeros_0f7a4 38 = .ok (.if_icmp .le 11, 3) := by decide +kernel
theorem dJ6_numberOfTrailingZeros_0f7a4_41 : decode cJ6_numberOfTrailingZeros_0f7a4 41 = .ok (.iinc 1 8, 3) := by decide +kernel
theorem dJ6_numberOfTrailingZeros_0f7a4_44 : decode cJ6_numberOfTrailingZeros_0f7a4 44 = .ok (.iload_n 0, 1) := by decide +kernel
theorem dJ6_numberOfTrailingZeros_0f7a4_45 : decode cJ6_numberOfTrailingZeros_0f7a4 45 = .ok (.bipush 8, 2) := by decide +kernel
theorem dJ6_numberOfTrailingZeros_0f7a4_47 : decode cJ6_numberOfTrailingZeros_0f7a4 47 = .ok (.iushr, 1) := by decide +kernel
theorem dJ6_numberOfTrailingZeros_0f7a4_48 : decode cJ6_numberOfTrailingZeros_0f7a4 48 = .ok (.istore_n 0, 1) := by decide +kernel
theorem dJ6_numberOfTrailingZeros_0f7a4_49 : decode cJ6_numberOfTrailingZeros_0f7a4 49 = .ok (.iload_n 0, 1) := by decide +kernel
theorem dJ6_numberOfTrailingZeros_0f7a4_50 : decode cJ6_numberOfTrailingZeros_0f7a4 50 = .ok (.bipush 16, 2) := by decide +kernel
theorem dJ6_numberOfTrailingZeros_0f7a4_52 : decode cJ6_numberOfTrailingZeros_0f7a4 52 = .ok (.if_icmp .le 10, 3) := by decide +kernel
theorem dJ6_numberOfTrailingZeros_0f7a4_55 : decode cJ6_numberOfTrailingZeros_0f7a4 55 = .ok (.iinc 1 4, 3) := by decide +kernel
theorem dJ6_numberOfTrailingZeros_0f7a4_58 : decode cJ6_numberOfTrailingZeros_0f7a4 58 = .ok (.iload_n 0, 1) := by decide +kernel
theorem dJ6_numberOfTrailingZeros_0f7a4_59 : decode cJ6_numberOfTrailingZeros_0f7a4 59 = .ok (.iconst 4, 1) := by decide +kernel
theorem dJ6_numberOfTrailingZeros_0f7a4_60 : decode cJ6_numberOfTrailingZeros_0f7a4 60 = .ok (.iushr, 1) := by decide +kernel
theorem dJ6_numberOfTrailingZeros_0f7a4_61 : decode cJ6_numberOfTrailingZeros_0f7a4 61 = .ok (.istore_n 0, 1) := by decide +kernel
theorem dJ6_numberOfTrailingZeros_0f7a4_62 : decode cJ6_numberOfTrailingZeros_0f7a4 62 = .ok (.iload_n 0, 1) := by decide +kernel
theorem dJ6_numberOfTrailingZeros_0f7a4_63 : decode cJ6_numberOfTrailingZeros_0f7a4 63 = .ok (.iconst 4, 1) := by decide +kernel
theorem dJ6_numberOfTrailingZeros_0f7a4_64 : decode cJ6_numberOfTrailingZeros_0f7a4 64 = .ok (.if_icmp .le 10, 3) := by decide +kernel
theorem dJ6_numberOfTrailingZeros_0f7a4_67 : decode cJ6_numberOfTrailingZeros_0f7a4 67 = .ok (.iinc 1 2, 3) := by decide +kernel
theorem dJ6_numberOfTrailingZeros_0f7a4_70 : decode cJ6_numberOfTrailingZeros_0f7a4 70 = .ok (.iload_n 0, 1) := by decide +kernel
theorem dJ6_numberOfTrailingZeros_0f7a4_71 : decode cJ6_numberOfTrailingZeros_0f7a4 71 = .ok (.iconst 2, 1) := by decide +kernel
theorem dJ6_numberOfTrailingZeros_0f7a4_72 : decode cJ6_numberOfTrailingZeros_0f7a4 72 = .ok (.iushr, 1) := by decide +kernel
theorem dJ6_numberOfTrailingZeros_0f7a4_73 : decode cJ6_numberOfTrailingZeros_0f7a4 73 = .ok (.istore_n 0, 1) := by decide +kernel
theorem dJ6_numberOfTrailingZeros_0f7a4_74 : decode cJ6_numberOfTrailingZeros_0f7a4 74 = .ok (.iload_n 1, 1) := by decide +kernel
theorem dJ6_numberOfTrailingZeros_0f7a4_75 : decode cJ6_numberOfTrailingZeros_0f7a4 75 = .ok (.iload_n 0, 1) := by decide +kernel
theorem dJ6_numberOfTrailingZeros_0f7a4_76 : decode cJ6_numberOfTrailingZeros_0f7a4 76 = .ok (.iconst 1, 1) := by decide +kernel
theorem dJ6_numberOfTrailingZeros_0f7a4_77 : decode cJ6_numberOfTrailingZeros_0f7a4 77 = .ok (.iushr, 1) := by decide +kernel
theorem dJ6_numberOfTrailingZeros_0f7a4_78 : decode cJ6_numberOfTrailingZeros_0f7a4 78 = .ok (.iadd, 1) := by decide +kernel
theorem dJ6_numberOfTrailingZeros_0f7a4_79 : decode cJ6_numberOfTrailingZeros_0f7a4 79 = .ok (.ireturn, 1) := by decide +kernel
theorem dJ6_bitCount_0f7a4_0 : decode cJ6_bitCount_0f7a4 0 = .ok (.iload_n 0, 1) := by decide +kernel
theorem dJ6_bitCount_0f7a4_1 : decode cJ6_bitCount_0f7a4 1 = .ok (.iload_n 0, 1) := by decide +kernel
theorem dJ6_bitCount_0f7a4_2 : decode cJ6_bitCount_0f7a4 2 = .ok (.iconst 1, 1) := by decide +kernel
theorem dJ6_bitCount_0f7a4_3 : decode cJ6_bitCount_0f7a4 3 = .ok (.iushr, 1) := by decide +kernel
theorem dJ6_bitCount_0f7a4_4 : decode cJ6_bitCount_0f7a4 4 = .ok (.ldc_w 265, 3) := by decide +kernel
theorem dJ6_bitCount_0f7a4_7 : decode cJ6_bitCount_0f7a4 7 = .ok (.iand, 1) := by decide +kernel
theorem dJ6_bitCount_0f7a4_8 : decode cJ6_bitCount_0f7a4 8 = .ok (.isub, 1) := by decide +kernel
theorem dJ6_bitCount_0f7a4_9 : decode cJ6_bitCount_0f7a4 9 = .ok (.istore_n 0, 1) := by decide +kernel
theorem dJ6_bitCount_0f7a4_10 : decode cJ6_bitCount_0f7a4 10 = .ok (.iload_n 0, 1) := by decide +kernel
theorem dJ6_bitCount_0f7a4_11 : decode cJ6_bitCount_0f7a4 11 = .ok (.ldc_w 266, 3) := by decide +kernel
theorem dJ6_bitCount_0f7a4_14 : decode cJ6_bitCount_0f7a4 14 = .ok (.iand, 1) := by decide +kernel
theorem dJ6_bitCount_0f7a4_15 : decode cJ6_bitCount_0f7a4 15 = .ok (.iload_n 0, 1) := by decide +kernel
theorem dJ6_bitCount_0f7a4_16 : decode cJ6_bitCount_0f7a4 16 = .ok (.iconst 2, 1) := by decide +kernel
theorem dJ6_bitCount_0f7a4_17 : decode cJ6_bitCount_0f7a4 17 = .ok (.iushr, 1) := by decide +kernel
theorem dJ6_bitCount_0f7a4_18 : decode cJ6_bitCount_0f7a4 18 = .ok (.ldc_w 266, 3) := by decide +kernel
theorem dJ6_bitCount_0f7a4_21 : decode cJ6_bitCount_0f7a4 21 = .ok (.iand, 1) := by decide +kernel
theorem dJ6_bitCount_0f7a4_22 : decode cJ6_bitCount_0f7a4 22 = .ok (.iadd, 1) := by decide +kernel
theorem dJ6_bitCount_0f7a4_23 : decode cJ6_bitCount_0f7a4 23 = .ok (.istore_n 0, 1) := by decide +kernel
theorem dJ6_bitCount_0f7a4_24 : decode cJ6_bitCount_0f7a4 24 = .ok (.iload_n 0, 1) := by decide +kernel
theorem dJ6_bitCount_0f7a4_25 : decode cJ6_bitCount_0f7a4 25 = .ok (.iload_n 0, 1) := by decide +kernel
theorem dJ6_bitCount_0f7a4_26 : decode cJ6_bitCount_0f7a4 26 = .ok (.iconst 4, 1) := by decide +kernel
theorem dJ6_bitCount_0f7a4_27 : decode cJ6_bitCount_0f7a4 27 = .ok (.iushr, 1) := by decide +kernel
theorem dJ6_bitCount_0f7a4_28 : decode cJ6_bitCount_0f7a4 28 = .ok (.iadd, 1) := by decide +kernel
theorem dJ6_bitCount_0f7a4_29 : decode cJ6_bitCount_0f7a4 29 = .ok (.ldc_w 267, 3) := by decide +kernel
theorem dJ6_bitCount_0f7a4_32 : decode cJ6_bitCount_0f7a4 32 = .ok (.iand, 1) := by decide +kernel
theorem dJ6_bitCount_0f7a4_33 : decode cJ6_bitCount_0f7a4 33 = .ok (.istore_n 0, 1) := by decide +kernel
theorem dJ6_bitCount_0f7a4_34 : decode cJ6_bitCount_0f7a4 34 = .ok (.iload_n 0, 1) := by decide +kernel
theorem dJ6_bitCount_0f7a4_35 : decode cJ6_bitCount_0f7a4 35 = .ok (.iload_n 0, 1) := by decide +kernel
theorem dJ6_bitCount_0f7a4_36 : decode cJ6_bitCount_0f7a4 36 = .ok (.bipush 8, 2) := by decide +kernel
theorem dJ6_bitCount_0f7a4_38 : decode cJ6_bitCount_0f7a4 38 = .ok (.iushr, 1) := by decide +kernel
theorem dJ6_bitCount_0f7a4_39 : decode cJ6_bitCount_0f7a4 39 = .ok (.iadd, 1) := by decide +kernel
theorem dJ6_bitCount_0f7a4_40 : decode cJ6_bitCount_0f7a4 40 = .ok (.istore_n 0, 1) := by decide +kernel
theorem dJ6_bitCount_0f7a4_41 : decode cJ6_bitCount_0f7a4 41 = .ok (.iload_n 0, 1) := by decide +kernel
theorem dJ6_bitCount_0f7a4_42 : decode cJ6_bitCount_0f7a4 42 = .ok (.iload_n 0, 1) := by decide +kernel
theorem dJ6_bitCount_0f7a4_43 : decode cJ6_bitCount_0f7a4 43 = .ok (.bipush 16, 2) := by decide +kernel
theorem dJ6_bitCount_0f7a4_45 : decode cJ6_bitCount_0f7a4 45 = .ok (.iushr, 1) := by decide +kernel
theorem dJ6_bitCount_0f7a4_46 : decode cJ6_bitCount_0f7a4 46 = .ok (.iadd, 1) := by decide +kernel
theorem dJ6_bitCount_0f7a4_47 : decode cJ6_bitCount_0f7a4 47 = .ok (.istore_n 0, 1) := by decide +kernel
theorem dJ6_bitCount_0f7a4_48 : decode cJ6_bitCount_0f7a4 48 = .ok (.iload_n 0, 1) := by decide +kernel
theorem dJ6_bitCount_0f7a4_49 : decode cJ6_bitCount_0f7a4 49 = .ok (.bipush 63, 2) := by decide +kernel
theorem dJ6_bitCount_0f7a4_51 : decode cJ6_bitCount_0f7a4 51 = .ok (.iand, 1) := by decide +kernel
theorem dJ6_bitCount_0f7a4_52 : decode cJ6_bitCount_0f7a4 52 = .ok (.ireturn, 1) := by decide +kernel
set_option maxRecDepth 20000 in
theorem ggJ13_numberOfTrailingZeros_95d88_J6_numberOfTrailingZeros_0f7a4 : GoodIn wsJ13_numberOfTrailingZeros_95d88 wsJ6_numberOfTrailingZeros_0f7a4 := goodIn_r _ [4, 5] (by decide +kernel) (by decide +kernel)
set_option maxRecDepth 20000 in
theorem gJ13_numberOfTrailingZeros_95d88_J6_numberOfTrailingZeros_0f7a4 : GoodIn wsJ13_numberOfTrailingZeros_95d88 (va_wsS RJ13 311 yJ6_numberOfTrailingZeros_0f7a4 wsJ6_numberOfTrailingZeros_0f7a4) := goodIn_app (goodIn_of _ (by decide +kernel)) ggJ13_numberOfTrailingZeros_95d88_J6_numberOfTrailingZeros_0f7a4
theorem dJ13_numberOfTrailingZeros_95d88_0 : decode cJ13_numberOfTrailingZeros_95d88 0 = .ok (.lload_n 0, 1) := by decide +kernel
theorem dJ13_numberOfTrailingZeros_95d88_1 : decode cJ13_numberOfTrailingZeros_95d88 1 = .ok (.l2i, 1) := by decide +kernel
theorem dJ13_numberOfTrailingZeros_95d88_2 : decode cJ13_numberOfTrailingZeros_95d88 2 = .ok (.istore_n 2, 1) := by decide +kernel
theorem dJ13_numberOfTrailingZeros_95d88_3 : decode cJ13_numberOfTrailingZeros_95d88 3 = .ok (.iload_n 2, 1) := by decide +kernel
theorem dJ13_numberOfTrailingZeros_95d88_4 : decode cJ13_numberOfTrailingZeros_95d88 4 = .ok (.ifCond .ne 17, 3) := by decide +kernel
theorem dJ13_numberOfTrailingZeros_95d88_7 : decode cJ13_numberOfTrailingZeros_95d88 7 = .ok (.bipush 32, 2) := by decide +kernel
theorem dJ13_numberOfTrailingZeros_95d88_9 : decode cJ13_numberOfTrailingZeros_95d88 9 = .ok (.lload_n 0, 1) := by decide +kernel
theorem dJ13_numberOfTrailingZeros_95d88_10 : decode cJ13_numberOfTrailingZeros_95d88 10 = .ok (.bipush 32, 2) := by decide +kernel
theorem dJ13_numberOfTrailingZeros_95d88_12 : decode cJ13_numberOfTrailingZeros_95d88 12 = .ok (.lushr, 1) := by decide +kernel
theorem dJ13_numberOfTrailingZeros_95d88_13 : decode cJ13_numberOfTrailingZeros_95d88 13 = .ok (.l2i, 1) := by decide +kernel
theorem dJ13_numberOfTrailingZeros_95d88_14 : decode cJ13_numberOfTrailingZeros_95d88 14 = .ok (.invokestatic 311, 3) := by decide +kernel
theorem dJ13_numberOfTrailingZeros_95d88_17 : decode cJ13_numberOfTrailingZeros_95d88 17 = .ok (.iadd, 1) := by decide +kernel
theorem dJ13_numberOfTrailingZeros_95d88_18 : decode cJ13_numberOfTrailingZeros_95d88 18 = .ok (.goto 7, 3) := by decide +kernel
theorem dJ13_numberOfTrailingZeros_95d88_21 : decode cJ13_numberOfTrailingZeros_95d88 21 = .ok (.iload_n 2, 1) := by decide +kernel
theorem dJ13_numberOfTrailingZeros_95d88_22 : decode cJ13_numberOfTrailingZeros_95d88 22 = .ok (.invokestatic 311, 3) := by decide +kernel
theorem dJ13_numberOfTrailingZeros_95d88_25 : decode cJ13_numberOfTrailingZeros_95d88 25 = .ok (.ireturn, 1) := by decide +kernel
theorem dJ13_bitCount_95d88_0 : decode cJ13_bitCount_95d88 0 = .ok (.lload_n 0, 1) := by decide +kernel
theorem dJ13_bitCount_95d88_1 : decode cJ13_bitCount_95d88 1 = .ok (.lload_n 0, 1) := by decide +kernel
theorem dJ13_bitCount_95d88_2 : decode cJ13_bitCount_95d88 2 = .ok (.iconst 1, 1) := by decide +kernel
theorem dJ13_bitCount_95d88_3 : decode cJ13_bitCount_95d88 3 = .ok (.lushr, 1) := by decide +kernel
theorem dJ13_bitCount_95d88_4 : decode cJ13_bitCount_95d88 4 = .ok (.ldc2_w 314, 3) := by decide +kernel
theorem dJ13_bitCount_95d88_7 : decode cJ13_bitCount_95d88 7 = .ok (.land, 1) := by decide +kernel
theorem dJ13_bitCount_95d88_8 : decode cJ13_bitCount_95d88 8 = .ok (.lsub, 1) := by decide +kernel
theorem dJ13_bitCount_95d88_9 : decode cJ13_bitCount_95d88 9 = .ok (.lstore_n 0, 1) := by decide +kernel
theorem dJ13_bitCount_95d88_10 : decode cJ13_bitCount_95d88 10 = .ok (.lload_n 0, 1) := by decide +kernel
theorem dJ13_bitCount_95d88_11 : decode cJ13_bitCount_95d88 11 = .ok (.ldc2_w 316, 3) := by decide +kernel
theorem dJ13_bitCount_95d88_14 : decode cJ13_bitCount_95d88 14 = .ok (.land, 1) := by decide +kernel
theorem dJ13_bitCount_95d88_15 : decode cJ13_bitCount_95d88 15 = .ok (.lload_n 0, 1) := by decide +kernel
theorem dJ13_bitCount_95d88_16 : decode cJ13_bitCount_95d88 16 = .ok (.iconst 2, 1) := by decide +kernel
theorem dJ13_bitCount_95d88_17 : decode cJ13_bitCount_95d88 17 = .ok (.lushr, 1) := by decide +kernel
theorem dJ13_bitCount_95d88_18 : decode cJ13_bitCount_95d88 18 = .ok (.ldc2_w 316, 3) := by decide +kernel
theorem dJ13_bitCount_95d88_21 : decode cJ13_bitCount_95d88 21 = .ok (.land, 1) := by decide +kernel
theorem dJ13_bitCount_95d88_22 : decode cJ13_bitCount_95d88 22 = .ok (.ladd, 1) := by decide +kernel
theorem dJ13_bitCount_95d88_23 : decode cJ13_bitCount_95d88 23 = .ok (.lstore_n 0, 1) := by decide +kernel
theorem dJ13_bitCount_95d88_24 : decode cJ13_bitCount_95d88 24 = .ok (.lload_n 0, 1) := by decide +kernel
theorem dJ13_bitCount_95d88_25 : decode cJ13_bitCount_95d88 25 = .ok (.lload_n 0, 1) := by decide +kernel
theorem dJ13_bitCount_95d88_26 : decode cJ13_bitCount_95d88 26 = .ok (.iconst 4, 1) := by decide +kernel
theorem dJ13_bitCount_95d88_27 : decode cJ13_bitCount_95d88 27 = .ok (.lushr, 1) := by decide +kernel
theorem dJ13_bitCount_95d88_28 : decode cJ13_bitCount_95d88 28 = .ok (.ladd, 1) := by decide +kernel
theorem dJ13_bitCount_95d88_29 : decode cJ13_bitCount_95d88 29 = .ok (.ldc2_w 318, 3) := by decide +kernel
theorem dJ13_bitCount_95d88_32 : decode cJ13_bitCount_95d88 32 = .ok (.land, 1) := by decide +kernel
theorem dJ13_bitCount_95d88_33 : decode cJ13_bitCount_95d88 33 = .ok (.lstore_n 0, 1) := by decide +kernel
theorem dJ13_bitCount_95d88_34 : decode cJ13_bitCount_95d88 34 = .ok (.lload_n 0, 1) := by decide +kernel
theorem dJ13_bitCount_95d88_35 : decode cJ13_bitCount_95d88 35 = .ok (.lload_n 0, 1) := by decide +kernel
theorem dJ13_bitCount_95d88_36 : decode cJ13_bitCount_95d88 36 = .ok (.bipush 8, 2) := by decide +kernel
theorem dJ13_bitCount_95d88_38 : decode cJ13_bitCount_95d88 38 = .ok (.lushr, 1) := by decide +kernel
theorem dJ13_bitCount_95d88_39 : decode cJ13_bitCount_95d88 39 = .ok (.ladd, 1) := by decide +kernel
theorem dJ13_bitCount_95d88_40 : decode cJ13_bitCount_95d88 40 = .ok (.lstore_n 0, 1) := by decide +kernel
theorem dJ13_bitCount_95d88_41 : decode cJ13_bitCount_95d88 41 = .ok (.lload_n 0, 1) := by decide +kernel
theorem dJ13_bitCount_95d88_42 : decode cJ13_bitCount_95d88 42 = .ok (.lload_n 0, 1) := by decide +kernel
theorem dJ13_bitCount_95d88_43 : decode cJ13_bitCount_95d88 43 = .ok (.bipush 16, 2) := by decide +kernel
theorem dJ13_bitCount_95d88_45 : decode cJ13_bitCount_95d88 45 = .ok (.lushr, 1) := by decide +kernel
theorem dJ13_bitCount_95d88_46 : decode cJ13_bitCount_95d88 46 = .ok (.ladd, 1) := by decide +kernel
theorem dJ13_bitCount_95d88_47 : decode cJ13_bitCount_95d88 47 = .ok (.lstore_n 0, 1) := by decide +kernel
theorem dJ13_bitCount_95d88_48 : decode cJ13_bitCount_95d88 48 = .ok (.lload_n 0, 1) := by decide +kernel
theorem dJ13_bitCount_95d88_49 : decode cJ13_bitCount_95d88 49 = .ok (.lload_n 0, 1) := by decide +kernel
theorem dJ13_bitCount_95d88_50 : decode cJ13_bitCount_95d88 50 = .ok (.bipush 32, 2) := by decide +kernel
theorem dJ13_bitCount_95d88_52 : decode cJ13_bitCount_95d88 52 = .ok (.lushr, 1) := by decide +kernel
theorem dJ13_bitCount_95d88_53 : decode cJ13_bitCount_95d88 53 = .ok (.ladd, 1) := by decide +kernel
theorem dJ13_bitCount_95d88_54 : decode cJ13_bitCount_95d88 54 = .ok (.lstore_n 0, 1) := by decide +kernel
theorem dJ13_bitCount_95d88_55 : decode cJ13_bitCount_95d88 55 = .ok (.lload_n 0, 1) := by decide +kernel
theorem dJ13_bitCount_95d88_56 : decode cJ13_bitCount_95d88 56 = .ok (.l2i, 1) := by decide +kernel
theorem dJ13_bitCount_95d88_57 : decode cJ13_bitCount_95d88 57 = .ok (.bipush 127, 2) := by decide +kernel
theorem dJ13_bitCount_95d88_59 : decode cJ13_bitCount_95d88 59 = .ok (.iand, 1) := by decide +kernel
theorem dJ13_bitCount_95d88_60 : decode cJ13_bitCount_95d88 60 = .ok (.ireturn, 1) := by decide +kernel
