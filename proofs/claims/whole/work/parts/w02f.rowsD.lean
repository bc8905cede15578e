set_option maxRecDepth 20000 in
theorem ggX7_init_X5_init : GoodIn wsX7_init wsX5_init := goodIn_r _ [35, 36, 2, 3, 30, 37, 38, 39, 40, 41, 42, 43, 44, 45, 46, 6, 47, 48, 49, 50, 51, 52, 53, 54, 55, 56, 57, 90, 91, 92, 93, 94, 95, 96, 97, 98, 99, 100] (by decide +kernel) (by decide +kernel)
set_option maxRecDepth 20000 in
theorem gX7_init_X5_init : GoodIn wsX7_init (wsX5_init) := ggX7_init_X5_init
set_option maxRecDepth 20000 in
theorem ggX7_init_X2_init : GoodIn wsX7_init wsX2_init := goodIn_r _ [60, 30, 61, 62, 63, 64, 65, 66, 2, 3, 67, 68, 69, 70, 71, 111, 112, 113, 114, 115, 116, 117, 118, 119] (by decide +kernel) (by decide +kernel)
set_option maxRecDepth 20000 in
theorem gX7_init_X2_init : GoodIn wsX7_init (wsX2_init) := ggX7_init_X2_init
set_option maxRecDepth 20000 in
theorem ggX7_init_X4_init : GoodIn wsX7_init wsX4_init := goodIn_r _ [74, 75, 63, 64, 65, 66, 2, 3, 67, 68, 69, 70, 30, 71, 111, 112, 113, 114, 115, 116, 117, 118, 119] (by decide +kernel) (by decide +kernel)
set_option maxRecDepth 20000 in
theorem gX7_init_X4_init : GoodIn wsX7_init (wsX4_init) := ggX7_init_X4_init
set_option maxRecDepth 20000 in
theorem ggX7_init_X0_init : GoodIn wsX7_init wsX0_init := goodIn_r _ [78, 79, 2, 3, 30, 80, 120] (by decide +kernel) (by decide +kernel)
set_option maxRecDepth 20000 in
theorem gX7_init_X0_init : GoodIn wsX7_init (wsX0_init) := ggX7_init_X0_init
set_option maxRecDepth 20000 in
theorem ggX7_init_X3_init : GoodIn wsX7_init wsX3_init := goodIn_r _ [82, 83, 2, 3, 30, 84, 121] (by decide +kernel) (by decide +kernel)
set_option maxRecDepth 20000 in
theorem gX7_init_X3_init_n45 : GoodIn wsX7_init (wsX3_init) := ggX7_init_X3_init
set_option maxRecDepth 20000 in
theorem ggX7_init_X1_init : GoodIn wsX7_init wsX1_init := goodIn_r _ [86, 87, 2, 3, 88, 89, 122] (by decide +kernel) (by decide +kernel)
set_option maxRecDepth 20000 in
theorem gX7_init_X1_init_n52 : GoodIn wsX7_init (wsX1_init) := ggX7_init_X1_init
theorem dX7_init_0 : decode cX7_init 0 = .ok (.aload_n 0, 1) := by decide +kernel
theorem dX7_init_1 : decode cX7_init 1 = .ok (.invokespecial 1, 3) := by decide +kernel
theorem dX7_init_4 : decode cX7_init 4 = .ok (.aload_n 0, 1) := by decide +kernel
theorem dX7_init_5 : decode cX7_init 5 = .ok (.new 7, 3) := by decide +kernel
theorem dX7_init_8 : decode cX7_init 8 = .ok (.dup, 1) := by decide +kernel
theorem dX7_init_9 : decode cX7_init 9 = .ok (.invokespecial 9, 3) := by decide +kernel
theorem dX7_init_12 : decode cX7_init 12 = .ok (.putfield 10, 3) := by decide +kernel
theorem dX7_init_15 : decode cX7_init 15 = .ok (.aload_n 0, 1) := by decide +kernel
theorem dX7_init_16 : decode cX7_init 16 = .ok (.new 7, 3) := by decide +kernel
theorem dX7_init_19 : decode cX7_init 19 = .ok (.dup, 1) := by decide +kernel
theorem dX7_init_20 : decode cX7_init 20 = .ok (.invokespecial 9, 3) := by decide +kernel
theorem dX7_init_23 : decode cX7_init 23 = .ok (.putfield 16, 3) := by decide +kernel
theorem dX7_init_26 : decode cX7_init 26 = .ok (.aload_n 0, 1) := by decide +kernel
theorem dX7_init_27 : decode cX7_init 27 = .ok (.new 7, 3) := by decide +kernel
theorem dX7_init_30 : decode cX7_init 30 = .ok (.dup, 1) := by decide +kernel
theorem dX7_init_31 : decode cX7_init 31 = .ok (.invokespecial 9, 3) := by decide +kernel
theorem dX7_init_34 : decode cX7_init 34 = .ok (.putfield 19, 3) := by decide +kernel
theorem dX7_init_37 : decode cX7_init 37 = .ok (.aload_n 0, 1) := by decide +kernel
theorem dX7_init_38 : decode cX7_init 38 = .ok (.new 22, 3) := by decide +kernel
theorem dX7_init_41 : decode cX7_init 41 = .ok (.dup, 1) := by decide +kernel
theorem dX7_init_42 : decode cX7_init 42 = .ok (.invokespecial 24, 3) := by decide +kernel
theorem dX7_init_45 : decode cX7_init 45 = .ok (.putfield 25, 3) := by decide +kernel
theorem dX7_init_48 : decode cX7_init 48 = .ok (.aload_n 0, 1) := by decide +kernel
theorem dX7_init_49 : decode cX7_init 49 = .ok (.new 29, 3) := by decide +kernel
theorem dX7_init_52 : decode cX7_init 52 = .ok (.dup, 1) := by decide +kernel
theorem dX7_init_53 : decode cX7_init 53 = .ok (.invokespecial 31, 3) := by decide +kernel
theorem dX7_init_56 : decode cX7_init 56 = .ok (.putfield 32, 3) := by decide +kernel
theorem dX7_init_59 : decode cX7_init 59 = .ok (.aload_n 0, 1) := by decide +kernel
theorem dX7_init_60 : decode cX7_init 60 = .ok (.new 36, 3) := by decide +kernel
theorem dX7_init_63 : decode cX7_init 63 = .ok (.dup, 1) := by decide +kernel
theorem dX7_init_64 : decode cX7_init 64 = .ok (.invokespecial 38, 3) := by decide +kernel
theorem dX7_init_67 : decode cX7_init 67 = .ok (.putfield 39, 3) := by decide +kernel
theorem dX7_init_70 : decode cX7_init 70 = .ok (.aload_n 0, 1) := by decide +kernel
theorem dX7_init_71 : decode cX7_init 71 = .ok (.new 43, 3) := by decide +kernel
theorem dX7_init_74 : decode cX7_init 74 = .ok (.dup, 1) := by decide +kernel
theorem dX7_init_75 : decode cX7_init 75 = .ok (.invokespecial 45, 3) := by decide +kernel
theorem dX7_init_78 : decode cX7_init 78 = .ok (.putfield 46, 3) := by decide +kernel
theorem dX7_init_81 : decode cX7_init 81 = .ok (.aload_n 0, 1) := by decide +kernel
theorem dX7_init_82 : decode cX7_init 82 = .ok (.new 50, 3) := by decide +kernel
theorem dX7_init_85 : decode cX7_init 85 = .ok (.dup, 1) := by decide +kernel
theorem dX7_init_86 : decode cX7_init 86 = .ok (.invokespecial 52, 3) := by decide +kernel
theorem dX7_init_89 : decode cX7_init 89 = .ok (.putfield 53, 3) := by decide +kernel
theorem dX7_init_92 : decode cX7_init 92 = .ok (.aload_n 0, 1) := by decide +kernel
theorem dX7_init_93 : decode cX7_init 93 = .ok (.bipush 7, 2) := by decide +kernel
theorem dX7_init_95 : decode cX7_init 95 = .ok (.newarray .int, 2) := by decide +kernel
theorem dX7_init_97 : decode cX7_init 97 = .ok (.putfield 57, 3) := by decide +kernel
theorem dX7_init_100 : decode cX7_init 100 = .ok (.aload_n 0, 1) := by decide +kernel
theorem dX7_init_101 : decode cX7_init 101 = .ok (.iconst 0, 1) := by decide +kernel
theorem dX7_init_102 : decode cX7_init 102 = .ok (.putfield 61, 3) := by decide +kernel
theorem dX7_init_105 : decode cX7_init 105 = .ok (.return_, 1) := by decide +kernel
set_option maxRecDepth 20000 in
theorem ggX7_feed_X7_refuse : GoodIn wsX7_feed wsX7_refuse := goodIn_r _ [6, 7, 25, 26, 27, 28, 29, 30, 31, 32, 33, 34] (by decide +kernel) (by decide +kernel)
set_option maxRecDepth 20000 in
theorem gX7_feed_X7_refuse : GoodIn wsX7_feed (wsV RX7 65 RX7 yX7_refuse wsX7_refuse) := goodIn_app (goodIn_of _ (by decide +kernel)) ggX7_feed_X7_refuse
set_option maxRecDepth 20000 in
theorem ggX7_feed_X6_hasRoom : GoodIn wsX7_feed wsX6_hasRoom := goodIn_r _ [13, 14, 15, 35, 36, 37, 38, 39, 40, 41, 42, 43] (by decide +kernel) (by decide +kernel)
set_option maxRecDepth 20000 in
theorem gX7_feed_X6_hasRoom_u69X2 : GoodIn wsX7_feed (va_wsU RX7 69 RX2 "SumOfTwoThatStand$Told" ⟨"SumOfTwoThatStand$Letters", "hasRoom", "()Z"⟩ yX6_hasRoom wsX6_hasRoom) := goodIn_app (goodIn_of _ (by decide +kernel)) ggX7_feed_X6_hasRoom
set_option maxRecDepth 20000 in
theorem ggX7_feed_X6_take : GoodIn wsX7_feed wsX6_take := goodIn_r _ [20, 15, 14, 21, 22, 23, 11, 12, 13, 24, 35, 36, 37, 38, 39, 40, 41, 42, 43] (by decide +kernel) (by decide +kernel)
set_option maxRecDepth 20000 in
theorem gX7_feed_X6_take_u73X2 : GoodIn wsX7_feed (va_wsU RX7 73 RX2 "SumOfTwoThatStand$Told" ⟨"SumOfTwoThatStand$Letters", "take", "(I)I"⟩ yX6_take wsX6_take) := goodIn_app (goodIn_of _ (by decide +kernel)) ggX7_feed_X6_take
theorem dX7_feed_0 : decode cX7_feed 0 = .ok (.iload_n 1, 1) := by decide +kernel
theorem dX7_feed_1 : decode cX7_feed 1 = .ok (.ifCond .ge 10, 3) := by decide +kernel
theorem dX7_feed_4 : decode cX7_feed 4 = .ok (.aload_n 0, 1) := by decide +kernel
theorem dX7_feed_5 : decode cX7_feed 5 = .ok (.bipush (-4), 2) := by decide +kernel
theorem dX7_feed_7 : decode cX7_feed 7 = .ok (.invokevirtual 65, 3) := by decide +kernel
theorem dX7_feed_10 : decode cX7_feed 10 = .ok (.ireturn, 1) := by decide +kernel
theorem dX7_feed_11 : decode cX7_feed 11 = .ok (.iload_n 1, 1) := by decide +kernel
theorem dX7_feed_12 : decode cX7_feed 12 = .ok (.sipush 255, 3) := by decide +kernel
theorem dX7_feed_15 : decode cX7_feed 15 = .ok (.if_icmp .gt 13, 3) := by decide +kernel
theorem dX7_feed_18 : decode cX7_feed 18 = .ok (.aload_n 0, 1) := by decide +kernel
theorem dX7_feed_19 : decode cX7_feed 19 = .ok (.getfield 25, 3) := by decide +kernel
theorem dX7_feed_22 : decode cX7_feed 22 = .ok (.invokevirtual 69, 3) := by decide +kernel
theorem dX7_feed_25 : decode cX7_feed 25 = .ok (.ifCond .ne 10, 3) := by decide +kernel
theorem dX7_feed_28 : decode cX7_feed 28 = .ok (.aload_n 0, 1) := by decide +kernel
theorem dX7_feed_29 : decode cX7_feed 29 = .ok (.bipush (-6), 2) := by decide +kernel
theorem dX7_feed_31 : decode cX7_feed 31 = .ok (.invokevirtual 65, 3) := by decide +kernel
theorem dX7_feed_34 : decode cX7_feed 34 = .ok (.ireturn, 1) := by decide +kernel
theorem dX7_feed_35 : decode cX7_feed 35 = .ok (.aload_n 0, 1) := by decide +kernel
theorem dX7_feed_36 : decode cX7_feed 36 = .ok (.getfield 25, 3) := by decide +kernel
theorem dX7_feed_39 : decode cX7_feed 39 = .ok (.iload_n 1, 1) := by decide +kernel
theorem dX7_feed_40 : decode cX7_feed 40 = .ok (.invokevirtual 73, 3) := by decide +kernel
theorem dX7_feed_43 : decode cX7_feed 43 = .ok (.ireturn, 1) := by decide +kernel
set_option maxRecDepth 20000 in
theorem ggX7_street_X5_become : GoodIn wsX7_street wsX5_become := goodIn_r _ [8, 9, 10, 11, 12, 13, 14, 15, 16, 17, 18, 19, 20, 21, 22, 23, 226, 227, 228, 229, 230, 231, 232, 233, 234, 235, 236] (by decide +kernel) (by decide +kernel)
set_option maxRecDepth 20000 in
theorem gX7_street_X5_become : GoodIn wsX7_street (wsV RX7 76 RX5 yX5_become wsX5_become) := goodIn_app (goodIn_of _ (by decide +kernel)) ggX7_street_X5_become
set_option maxRecDepth 20000 in
theorem ggX7_street_X2_faultOfForm : GoodIn wsX7_street wsX2_faultOfForm := goodIn_r _ [28, 29, 30, 31, 32, 33, 34, 35, 36, 37, 38, 39, 40, 27, 41, 42, 43, 44, 45, 46, 47, 48, 49, 50, 51, 52, 53, 54, 55, 56, 57, 58, 59, 60, 61, 62, 63, 64, 65, 66, 67, 68, 69, 70, 71, 72, 73, 74, 75, 76, 77, 78, 79, 80, 81, 82, 83, 84, 85, 86, 87, 88, 89, 90, 91, 92, 93, 94, 95, 96, 97, 98, 99, 100, 101, 102, 103, 104, 105, 106, 107, 108, 109, 110, 111, 112, 113, 114, 115, 116, 117, 237, 238, 239, 240, 241, 242, 243, 244, 245] (by decide +kernel) (by decide +kernel)
set_option maxRecDepth 20000 in
theorem gX7_street_X2_faultOfForm : GoodIn wsX7_street (wsV RX7 80 RX2 yX2_faultOfForm wsX2_faultOfForm) := goodIn_app (goodIn_of _ (by decide +kernel)) ggX7_street_X2_faultOfForm
set_option maxRecDepth 20000 in
theorem ggX7_street_X2_faultOfSense : GoodIn wsX7_street wsX2_faultOfSense := goodIn_r _ [121, 29, 30, 38, 39, 40, 27, 41, 42, 43, 44, 45, 46, 47, 35, 48, 37, 49, 50, 51, 52, 53, 54, 55, 56, 57, 58, 59, 60, 61, 62, 63, 64, 65, 66, 67, 68, 69, 70, 71, 72, 73, 74, 75, 76, 77, 78, 79, 80, 81, 82, 83, 84, 85, 86, 87, 88, 89, 90, 91, 92, 93, 94, 95, 96, 97, 98, 99, 100, 101, 102, 103, 104, 105, 106, 107, 108, 109, 110, 111, 112, 113, 114, 115, 116, 117, 122, 123, 124, 125, 126, 127, 128, 7, 129, 15, 130, 131, 132, 133, 20, 134, 135, 136, 137, 138, 139, 140, 141, 142, 143, 144, 21, 145, 146, 147, 148, 149, 150, 151, 152, 153, 154, 155, 22, 156, 157, 158, 159, 160, 161, 162, 163, 164, 9, 18, 165, 166, 167, 168, 169, 170, 171, 172, 16, 17, 14, 19, 173, 174, 175, 176, 177, 178, 179, 180, 181, 182, 183, 184, 185, 186, 187, 188, 189, 190, 191, 192, 23, 193, 194, 195, 196, 197, 198, 199, 200, 201, 202, 203, 204, 205, 206, 237, 238, 239, 240, 241, 242, 243, 244, 245, 226, 227, 228, 229, 230, 231, 232, 233, 234, 235, 236] (by decide +kernel) (by decide +kernel)
set_option maxRecDepth 20000 in
theorem gX7_street_X2_faultOfSense : GoodIn wsX7_street (wsV RX7 84 RX2 yX2_faultOfSense wsX2_faultOfSense) := goodIn_app (goodIn_of _ (by decide +kernel)) ggX7_street_X2_faultOfSense
set_option maxRecDepth 20000 in
theorem ggX7_street_X6_forget : GoodIn wsX7_street wsX6_forget := goodIn_r _ [211, 37, 237, 238, 239, 240, 241, 242, 243, 244, 245] (by decide +kernel) (by decide +kernel)
set_option maxRecDepth 20000 in
theorem gX7_street_X6_forget_u88X2 : GoodIn wsX7_street (va_wsU RX7 88 RX2 "SumOfTwoThatStand$Told" ⟨"SumOfTwoThatStand$Letters", "forget", "()V"⟩ yX6_forget wsX6_forget) := goodIn_app (goodIn_of _ (by decide +kernel)) ggX7_street_X6_forget
set_option maxRecDepth 20000 in
theorem ggX7_street_X2_statementCount : GoodIn wsX7_street wsX2_statementCount := goodIn_r _ [215, 30, 237, 238, 239, 240, 241, 242, 243] (by decide +kernel) (by decide +kernel)
set_option maxRecDepth 20000 in
theorem gX7_street_X2_statementCount : GoodIn wsX7_street (wsV RX7 91 RX2 yX2_statementCount wsX2_statementCount) := goodIn_app (goodIn_of _ (by decide +kernel)) ggX7_street_X2_statementCount
theorem dX7_street_0 : decode cX7_street 0 = .ok (.aload_n 0, 1) := by decide +kernel
theorem dX7_street_1 : decode cX7_street 1 = .ok (.getfield 19, 3) := by decide +kernel
theorem dX7_street_4 : decode cX7_street 4 = .ok (.aload_n 0, 1) := by decide +kernel
theorem dX7_street_5 : decode cX7_street 5 = .ok (.getfield 10, 3) := by decide +kernel
theorem dX7_street_8 : decode cX7_street 8 = .ok (.invokevirtual 76, 3) := by decide +kernel
theorem dX7_street_11 : decode cX7_street 11 = .ok (.aload_n 0, 1) := by decide +kernel
theorem dX7_street_12 : decode cX7_street 12 = .ok (.getfield 25, 3) := by decide +kernel
theorem dX7_street_15 : decode cX7_street 15 = .ok (.invokevirtual 80, 3) := by decide +kernel
theorem dX7_street_18 : decode cX7_street 18 = .ok (.istore_n 1, 1) := by decide +kernel
theorem dX7_street_19 : decode cX7_street 19 = .ok (.iload_n 1, 1) := by decide +kernel
theorem dX7_street_20 : decode cX7_street 20 = .ok (.ifCond .ne 15, 3) := by decide +kernel
theorem dX7_street_23 : decode cX7_street 23 = .ok (.aload_n 0, 1) := by decide +kernel
theorem dX7_street_24 : decode cX7_street 24 = .ok (.getfield 25, 3) := by decide +kernel
theorem dX7_street_27 : decode cX7_street 27 = .ok (.aload_n 0, 1) := by decide +kernel
theorem dX7_street_28 : decode cX7_street 28 = .ok (.getfield 19, 3) := by decide +kernel
theorem dX7_street_31 : decode cX7_street 31 = .ok (.invokevirtual 84, 3) := by decide +kernel
theorem dX7_street_34 : decode cX7_street 34 = .ok (.istore_n 1, 1) := by decide +kernel
theorem dX7_street_35 : decode cX7_street 35 = .ok (.aload_n 0, 1) := by decide +kernel
theorem dX7_street_36 : decode cX7_street 36 = .ok (.getfield 25, 3) := by decide +kernel
theorem dX7_street_39 : decode cX7_street 39 = .ok (.invokevirtual 88, 3) := by decide +kernel
theorem dX7_street_42 : decode cX7_street 42 = .ok (.iload_n 1, 1) := by decide +kernel
theorem dX7_street_43 : decode cX7_street 43 = .ok (.ifCond .eq 5, 3) := by decide +kernel
theorem dX7_street_46 : decode cX7_street 46 = .ok (.iload_n 1, 1) := by decide +kernel
theorem dX7_street_47 : decode cX7_street 47 = .ok (.ireturn, 1) := by decide +kernel
theorem dX7_street_48 : decode cX7_street 48 = .ok (.aload_n 0, 1) := by decide +kernel
theorem dX7_street_49 : decode cX7_street 49 = .ok (.getfield 10, 3) := by decide +kernel
theorem dX7_street_52 : decode cX7_street 52 = .ok (.aload_n 0, 1) := by decide +kernel
theorem dX7_street_53 : decode cX7_street 53 = .ok (.getfield 19, 3) := by decide +kernel
theorem dX7_street_56 : decode cX7_street 56 = .ok (.invokevirtual 76, 3) := by decide +kernel
theorem dX7_street_59 : decode cX7_street 59 = .ok (.aload_n 0, 1) := by decide +kernel
theorem dX7_street_60 : decode cX7_street 60 = .ok (.getfield 25, 3) := by decide +kernel
theorem dX7_street_63 : decode cX7_street 63 = .ok (.invokevirtual 91, 3) := by decide +kernel
theorem dX7_street_66 : decode cX7_street 66 = .ok (.ireturn, 1) := by decide +kernel
set_option maxRecDepth 20000 in
theorem ggX7_house_X5_has : GoodIn wsX7_house wsX5_has := goodIn_r _ [6, 7, 40, 41, 42, 43, 44, 45, 46, 47, 48, 49, 50] (by decide +kernel) (by decide +kernel)
set_option maxRecDepth 20000 in
theorem gX7_house_X5_has : GoodIn wsX7_house (wsV RX7 94 RX5 yX5_has wsX5_has) := goodIn_app (goodIn_of _ (by decide +kernel)) ggX7_house_X5_has
set_option maxRecDepth 20000 in
theorem ggX7_house_X7_refuse : GoodIn wsX7_house wsX7_refuse := goodIn_r _ [12, 13, 30, 31, 32, 33, 34, 35, 36, 37, 38, 39] (by decide +kernel) (by decide +kernel)
set_option maxRecDepth 20000 in
theorem gX7_house_X7_refuse : GoodIn wsX7_house (wsV RX7 65 RX7 yX7_refuse wsX7_refuse) := goodIn_app (goodIn_of _ (by decide +kernel)) ggX7_house_X7_refuse
set_option maxRecDepth 20000 in
theorem ggX7_house_X5_tell : GoodIn wsX7_house wsX5_tell := goodIn_r _ [17, 18, 19, 20, 21, 22, 23, 24, 25, 26, 3, 4, 5, 6, 7, 27, 28, 29, 40, 41, 42, 43, 44, 45, 46, 47, 48, 49, 50] (by decide +kernel) (by decide +kernel)
set_option maxRecDepth 20000 in
theorem gX7_house_X5_tell : GoodIn wsX7_house (wsV RX7 98 RX5 yX5_tell wsX5_tell) := goodIn_app (goodIn_of _ (by decide +kernel)) ggX7_house_X5_tell
theorem dX7_house_0 : decode cX7_house 0 = .ok (.aload_n 0, 1) := by decide +kernel
theorem dX7_house_1 : decode cX7_house 1 = .ok (.getfield 10, 3) := by decide +kernel
theorem dX7_house_4 : decode cX7_house 4 = .ok (.iload_n 1, 1) := by decide +kernel
theorem dX7_house_5 : decode cX7_house 5 = .ok (.invokevirtual 94, 3) := by decide +kernel
theorem dX7_house_8 : decode cX7_house 8 = .ok (.ifCond .ne 9, 3) := by decide +kernel
theorem dX7_house_11 : decode cX7_house 11 = .ok (.aload_n 0, 1) := by decide +kernel
theorem dX7_house_12 : decode cX7_house 12 = .ok (.iconst (-1), 1) := by decide +kernel
theorem dX7_house_13 : decode cX7_house 13 = .ok (.invokevirtual 65, 3) := by decide +kernel
theorem dX7_house_16 : decode cX7_house 16 = .ok (.ireturn, 1) := by decide +kernel
theorem dX7_house_17 : decode cX7_house 17 = .ok (.iload_n 2, 1) := by decide +kernel
theorem dX7_house_18 : decode cX7_house 18 = .ok (.ifCond .lt 9, 3) := by decide +kernel
theorem dX7_house_21 : decode cX7_house 21 = .ok (.iload_n 2, 1) := by decide +kernel
theorem dX7_house_22 : decode cX7_house 22 = .ok (.bipush 7, 2) := by decide +kernel
theorem dX7_house_24 : decode cX7_house 24 = .ok (.if_icmp .le 10, 3) := by decide +kernel
theorem dX7_house_27 : decode cX7_house 27 = .ok (.aload_n 0, 1) := by decide +kernel
theorem dX7_house_28 : decode cX7_house 28 = .ok (.bipush (-2), 2) := by decide +kernel
theorem dX7_house_30 : decode cX7_house 30 = .ok (.invokevirtual 65, 3) := by decide +kernel
theorem dX7_house_33 : decode cX7_house 33 = .ok (.ireturn, 1) := by decide +kernel
theorem dX7_house_34 : decode cX7_house 34 = .ok (.aload_n 0, 1) := by decide +kernel
theorem dX7_house_35 : decode cX7_house 35 = .ok (.getfield 10, 3) := by decide +kernel
theorem dX7_house_38 : decode cX7_house 38 = .ok (.iload_n 1, 1) := by decide +kernel
theorem dX7_house_39 : decode cX7_house 39 = .ok (.iload_n 2, 1) := by decide +kernel
theorem dX7_house_40 : decode cX7_house 40 = .ok (.invokevirtual 98, 3) := by decide +kernel
theorem dX7_house_43 : decode cX7_house 43 = .ok (.ireturn, 1) := by decide +kernel
set_option maxRecDepth 20000 in
theorem ggX7_law_X7_refuse : GoodIn wsX7_law wsX7_refuse := goodIn_r _ [6, 7, 23, 24, 25, 26, 27, 28, 29, 30, 31, 32] (by decide +kernel) (by decide +kernel)
set_option maxRecDepth 20000 in
theorem gX7_law_X7_refuse : GoodIn wsX7_law (wsV RX7 65 RX7 yX7_refuse wsX7_refuse) := goodIn_app (goodIn_of _ (by decide +kernel)) ggX7_law_X7_refuse
set_option maxRecDepth 20000 in
theorem ggX7_law_X5_sumsLaw : GoodIn wsX7_law wsX5_sumsLaw := goodIn_r _ [12, 13, 33, 34, 35, 36, 37, 38, 39, 40, 41, 42, 43] (by decide +kernel) (by decide +kernel)
set_option maxRecDepth 20000 in
theorem gX7_law_X5_sumsLaw : GoodIn wsX7_law (wsV RX7 102 RX5 yX5_sumsLaw wsX5_sumsLaw) := goodIn_app (goodIn_of _ (by decide +kernel)) ggX7_law_X5_sumsLaw
set_option maxRecDepth 20000 in
theorem ggX7_law_X5_fallsLaw : GoodIn wsX7_law wsX5_fallsLaw := goodIn_r _ [17, 18, 33, 34, 35, 36, 37, 38, 39, 40, 41, 42, 43] (by decide +kernel) (by decide +kernel)
set_option maxRecDepth 20000 in
theorem gX7_law_X5_fallsLaw : GoodIn wsX7_law (wsV RX7 105 RX5 yX5_fallsLaw wsX5_fallsLaw) := goodIn_app (goodIn_of _ (by decide +kernel)) ggX7_law_X5_fallsLaw
set_option maxRecDepth 20000 in
theorem ggX7_law_X5_changeLaws : GoodIn wsX7_law wsX5_changeLaws := goodIn_r _ [22, 13, 18, 33, 34, 35, 36, 37, 38, 39, 40, 41, 42, 43] (by decide +kernel) (by decide +kernel)
set_option maxRecDepth 20000 in
theorem gX7_law_X5_changeLaws : GoodIn wsX7_law (wsV RX7 108 RX5 yX5_changeLaws wsX5_changeLaws) := goodIn_app (goodIn_of _ (by decide +kernel)) ggX7_law_X5_changeLaws
theorem dX7_law_0 : decode cX7_law 0 = .ok (.iload_n 1, 1) := by decide +kernel
theorem dX7_law_1 : decode cX7_law 1 = .ok (.ifCond .lt 8, 3) := by decide +kernel
theorem dX7_law_4 : decode cX7_law 4 = .ok (.iload_n 1, 1) := by decide +kernel
theorem dX7_law_5 : decode cX7_law 5 = .ok (.iconst 1, 1) := by decide +kernel
theorem dX7_law_6 : decode cX7_law 6 = .ok (.if_icmp .le 10, 3) := by decide +kernel
theorem dX7_law_9 : decode cX7_law 9 = .ok (.aload_n 0, 1) := by decide +kernel
theorem dX7_law_10 : decode cX7_law 10 = .ok (.bipush (-2), 2) := by decide +kernel
theorem dX7_law_12 : decode cX7_law 12 = .ok (.invokevirtual 65, 3) := by decide +kernel
theorem dX7_law_15 : decode cX7_law 15 = .ok (.ireturn, 1) := by decide +kernel
theorem dX7_law_16 : decode cX7_law 16 = .ok (.iload_n 1, 1) := by decide +kernel
theorem dX7_law_17 : decode cX7_law 17 = .ok (.ifCond .ne 13, 3) := by decide +kernel
theorem dX7_law_20 : decode cX7_law 20 = .ok (.aload_n 0, 1) := by decide +kernel
theorem dX7_law_21 : decode cX7_law 21 = .ok (.getfield 10, 3) := by decide +kernel
theorem dX7_law_24 : decode cX7_law 24 = .ok (.invokevirtual 102, 3) := by decide +kernel
theorem dX7_law_27 : decode cX7_law 27 = .ok (.goto 10, 3) := by decide +kernel
theorem dX7_law_30 : decode cX7_law 30 = .ok (.aload_n 0, 1) := by decide +kernel
theorem dX7_law_31 : decode cX7_law 31 = .ok (.getfield 10, 3) := by decide +kernel
theorem dX7_law_34 : decode cX7_law 34 = .ok (.invokevirtual 105, 3) := by decide +kernel
theorem dX7_law_37 : decode cX7_law 37 = .ok (.istore_n 3, 1) := by decide +kernel
theorem dX7_law_38 : decode cX7_law 38 = .ok (.iload_n 1, 1) := by decide +kernel
theorem dX7_law_39 : decode cX7_law 39 = .ok (.ifCond .ne 7, 3) := by decide +kernel
theorem dX7_law_42 : decode cX7_law 42 = .ok (.iload_n 2, 1) := by decide +kernel
theorem dX7_law_43 : decode cX7_law 43 = .ok (.goto 10, 3) := by decide +kernel
theorem dX7_law_46 : decode cX7_law 46 = .ok (.aload_n 0, 1) := by decide +kernel
theorem dX7_law_47 : decode cX7_law 47 = .ok (.getfield 10, 3) := by decide +kernel
theorem dX7_law_50 : decode cX7_law 50 = .ok (.invokevirtual 102, 3) := by decide +kernel
theorem dX7_law_53 : decode cX7_law 53 = .ok (.istore 4, 2) := by decide +kernel
theorem dX7_law_55 : decode cX7_law 55 = .ok (.iload_n 1, 1) := by decide +kernel
theorem dX7_law_56 : decode cX7_law 56 = .ok (.ifCond .ne 13, 3) := by decide +kernel
theorem dX7_law_59 : decode cX7_law 59 = .ok (.aload_n 0, 1) := by decide +kernel
theorem dX7_law_60 : decode cX7_law 60 = .ok (.getfield 10, 3) := by decide +kernel
theorem dX7_law_63 : decode cX7_law 63 = .ok (.invokevirtual 105, 3) := by decide +kernel
theorem dX7_law_66 : decode cX7_law 66 = .ok (.goto 4, 3) := by decide +kernel
theorem dX7_law_69 : decode cX7_law 69 = .ok (.iload_n 2, 1) := by decide +kernel
theorem dX7_law_70 : decode cX7_law 70 = .ok (.istore 5, 2) := by decide +kernel
theorem dX7_law_72 : decode cX7_law 72 = .ok (.aload_n 0, 1) := by decide +kernel
theorem dX7_law_73 : decode cX7_law 73 = .ok (.getfield 10, 3) := by decide +kernel
theorem dX7_law_76 : decode cX7_law 76 = .ok (.iload 4, 2) := by decide +kernel
theorem dX7_law_78 : decode cX7_law 78 = .ok (.iload 5, 2) := by decide +kernel
theorem dX7_law_80 : decode cX7_law 80 = .ok (.invokevirtual 108, 3) := by decide +kernel
theorem dX7_law_83 : decode cX7_law 83 = .ok (.ifCond .eq 7, 3) := by decide +kernel
theorem dX7_law_86 : decode cX7_law 86 = .ok (.iload_n 3, 1) := by decide +kernel
theorem dX7_law_87 : decode cX7_law 87 = .ok (.goto 9, 3) := by decide +kernel
theorem dX7_law_90 : decode cX7_law 90 = .ok (.aload_n 0, 1) := by decide +kernel
theorem dX7_law_91 : decode cX7_law 91 = .ok (.bipush (-2), 2) := by decide +kernel
theorem dX7_law_93 : decode cX7_law 93 = .ok (.invokevirtual 65, 3) := by decide +kernel
theorem dX7_law_96 : decode cX7_law 96 = .ok (.ireturn, 1) := by decide +kernel
set_option maxRecDepth 20000 in
theorem ggX7_may_X5_has : GoodIn wsX7_may wsX5_has := goodIn_r _ [6, 7, 59, 60, 61, 62, 63, 64, 65, 66, 67, 68, 69] (by decide +kernel) (by decide +kernel)
set_option maxRecDepth 20000 in
theorem gX7_may_X5_has : GoodIn wsX7_may (wsV RX7 94 RX5 yX5_has wsX5_has) := goodIn_app (goodIn_of _ (by decide +kernel)) ggX7_may_X5_has
set_option maxRecDepth 20000 in
theorem ggX7_may_X7_refuse : GoodIn wsX7_may wsX7_refuse := goodIn_r _ [12, 13, 49, 50, 51, 52, 53, 54, 55, 56, 57, 58] (by decide +kernel) (by decide +kernel)
set_option maxRecDepth 20000 in
theorem gX7_may_X7_refuse : GoodIn wsX7_may (wsV RX7 65 RX7 yX7_refuse wsX7_refuse) := goodIn_app (goodIn_of _ (by decide +kernel)) ggX7_may_X7_refuse
set_option maxRecDepth 20000 in
theorem ggX7_may_X5_stands : GoodIn wsX7_may wsX5_stands := goodIn_r _ [17, 18, 19, 3, 4, 5, 6, 7, 20, 21, 22, 59, 60, 61, 62, 63, 64, 65, 66, 67, 68, 69] (by decide +kernel) (by decide +kernel)
set_option maxRecDepth 20000 in
theorem gX7_may_X5_stands : GoodIn wsX7_may (wsV RX7 112 RX5 yX5_stands wsX5_stands) := goodIn_app (goodIn_of _ (by decide +kernel)) ggX7_may_X5_stands
set_option maxRecDepth 20000 in
theorem ggX7_may_X5_mayBe : GoodIn wsX7_may wsX5_mayBe := goodIn_r _ [26, 27, 28, 15, 16, 5, 17, 18, 19, 3, 4, 6, 7, 20, 21, 22, 29, 30, 31, 32, 33, 34, 35, 36, 37, 38, 39, 40, 41, 42, 43, 44, 45, 46, 47, 48, 59, 60, 61, 62, 63, 64, 65, 66, 67, 68, 69] (by decide +kernel) (by decide +kernel)
set_option maxRecDepth 20000 in
theorem gX7_may_X5_mayBe : GoodIn wsX7_may (wsV RX7 115 RX5 yX5_mayBe wsX5_mayBe) := goodIn_app (goodIn_of _ (by decide +kernel)) ggX7_may_X5_mayBe
theorem dX7_may_0 : decode cX7_may 0 = .ok (.aload_n 0, 1) := by decide +kernel
theorem dX7_may_1 : decode cX7_may 1 = .ok (.getfield 10, 3) := by decide +kernel
theorem dX7_may_4 : decode cX7_may 4 = .ok (.iload_n 1, 1) := by decide +kernel
theorem dX7_may_5 : decode cX7_may 5 = .ok (.invokevirtual 94, 3) := by decide +kernel
theorem dX7_may_8 : decode cX7_may 8 = .ok (.ifCond .eq 14, 3) := by decide +kernel
theorem dX7_may_11 : decode cX7_may 11 = .ok (.aload_n 0, 1) := by decide +kernel
theorem dX7_may_12 : decode cX7_may 12 = .ok (.getfield 10, 3) := by decide +kernel
theorem dX7_may_15 : decode cX7_may 15 = .ok (.iload_n 2, 1) := by decide +kernel
theorem dX7_may_16 : decode cX7_may 16 = .ok (.invokevirtual 94, 3) := by decide +kernel
theorem dX7_may_19 : decode cX7_may 19 = .ok (.ifCond .ne 9, 3) := by decide +kernel
theorem dX7_may_22 : decode cX7_may 22 = .ok (.aload_n 0, 1) := by decide +kernel
theorem dX7_may_23 : decode cX7_may 23 = .ok (.iconst (-1), 1) := by decide +kernel
theorem dX7_may_24 : decode cX7_may 24 = .ok (.invokevirtual 65, 3) := by decide +kernel
theorem dX7_may_27 : decode cX7_may 27 = .ok (.ireturn, 1) := by decide +kernel
theorem dX7_may_28 : decode cX7_may 28 = .ok (.aload_n 0, 1) := by decide +kernel
theorem dX7_may_29 : decode cX7_may 29 = .ok (.getfield 10, 3) := by decide +kernel
theorem dX7_may_32 : decode cX7_may 32 = .ok (.iload_n 1, 1) := by decide +kernel
theorem dX7_may_33 : decode cX7_may 33 = .ok (.invokevirtual 112, 3) := by decide +kernel
theorem dX7_may_36 : decode cX7_may 36 = .ok (.ifCond .eq 14, 3) := by decide +kernel
theorem dX7_may_39 : decode cX7_may 39 = .ok (.aload_n 0, 1) := by decide +kernel
theorem dX7_may_40 : decode cX7_may 40 = .ok (.getfield 10, 3) := by decide +kernel
theorem dX7_may_43 : decode cX7_may 43 = .ok (.iload_n 2, 1) := by decide +kernel
theorem dX7_may_44 : decode cX7_may 44 = .ok (.invokevirtual 112, 3) := by decide +kernel
theorem dX7_may_47 : decode cX7_may 47 = .ok (.ifCond .ne 10, 3) := by decide +kernel
theorem dX7_may_50 : decode cX7_may 50 = .ok (.aload_n 0, 1) := by decide +kernel
theorem dX7_may_51 : decode cX7_may 51 = .ok (.bipush (-3), 2) := by decide +kernel
theorem dX7_may_53 : decode cX7_may 53 = .ok (.invokevirtual 65, 3) := by decide +kernel
theorem dX7_may_56 : decode cX7_may 56 = .ok (.ireturn, 1) := by decide +kernel
theorem dX7_may_57 : decode cX7_may 57 = .ok (.aload_n 0, 1) := by decide +kernel
theorem dX7_may_58 : decode cX7_may 58 = .ok (.getfield 10, 3) := by decide +kernel
theorem dX7_may_61 : decode cX7_may 61 = .ok (.iload_n 1, 1) := by decide +kernel
theorem dX7_may_62 : decode cX7_may 62 = .ok (.iload_n 2, 1) := by decide +kernel
theorem dX7_may_63 : decode cX7_may 63 = .ok (.invokevirtual 115, 3) := by decide +kernel
theorem dX7_may_66 : decode cX7_may 66 = .ok (.ifCond .eq 7, 3) := by decide +kernel
theorem dX7_may_69 : decode cX7_may 69 = .ok (.iconst 1, 1) := by decide +kernel
theorem dX7_may_70 : decode cX7_may 70 = .ok (.goto 4, 3) := by decide +kernel
theorem dX7_may_73 : decode cX7_may 73 = .ok (.iconst 0, 1) := by decide +kernel
theorem dX7_may_74 : decode cX7_may 74 = .ok (.ireturn, 1) := by decide +kernel
set_option maxRecDepth 20000 in
theorem ggX7_cost_X5_has : GoodIn wsX7_cost wsX5_has := goodIn_r _ [6, 7, 63, 64, 65, 66, 67, 68, 69, 70, 71, 72, 73] (by decide +kernel) (by decide +kernel)
set_option maxRecDepth 20000 in
theorem gX7_cost_X5_has : GoodIn wsX7_cost (wsV RX7 94 RX5 yX5_has wsX5_has) := goodIn_app (goodIn_of _ (by decide +kernel)) ggX7_cost_X5_has
set_option maxRecDepth 20000 in
theorem ggX7_cost_X7_refuse : GoodIn wsX7_cost wsX7_refuse := goodIn_r _ [12, 13, 53, 54, 55, 56, 57, 58, 59, 60, 61, 62] (by decide +kernel) (by decide +kernel)
set_option maxRecDepth 20000 in
theorem gX7_cost_X7_refuse : GoodIn wsX7_cost (wsV RX7 65 RX7 yX7_refuse wsX7_refuse) := goodIn_app (goodIn_of _ (by decide +kernel)) ggX7_cost_X7_refuse
set_option maxRecDepth 20000 in
theorem ggX7_cost_X5_mayBe : GoodIn wsX7_cost wsX5_mayBe := goodIn_r _ [17, 18, 19, 20, 21, 5, 22, 23, 24, 3, 4, 6, 7, 25, 26, 27, 28, 29, 30, 31, 32, 33, 34, 35, 36, 37, 38, 39, 40, 41, 42, 43, 44, 45, 46, 47, 63, 64, 65, 66, 67, 68, 69, 70, 71, 72, 73] (by decide +kernel) (by decide +kernel)
set_option maxRecDepth 20000 in
theorem gX7_cost_X5_mayBe : GoodIn wsX7_cost (wsV RX7 115 RX5 yX5_mayBe wsX5_mayBe) := goodIn_app (goodIn_of _ (by decide +kernel)) ggX7_cost_X5_mayBe
set_option maxRecDepth 20000 in
theorem ggX7_cost_X5_fee : GoodIn wsX7_cost wsX5_fee := goodIn_r _ [51, 42, 52, 24, 3, 4, 5, 6, 7, 63, 64, 65, 66, 67, 68, 69, 70, 71, 72, 73] (by decide +kernel) (by decide +kernel)
set_option maxRecDepth 20000 in
theorem gX7_cost_X5_fee : GoodIn wsX7_cost (wsV RX7 118 RX5 yX5_fee wsX5_fee) := goodIn_app (goodIn_of _ (by decide +kernel)) ggX7_cost_X5_fee
theorem dX7_cost_0 : decode cX7_cost 0 = .ok (.aload_n 0, 1) := by decide +kernel
theorem dX7_cost_1 : decode cX7_cost 1 = .ok (.getfield 10, 3) := by decide +kernel
theorem dX7_cost_4 : decode cX7_cost 4 = .ok (.iload_n 1, 1) := by decide +kernel
theorem dX7_cost_5 : decode cX7_cost 5 = .ok (.invokevirtual 94, 3) := by decide +kernel
theorem dX7_cost_8 : decode cX7_cost 8 = .ok (.ifCond .eq 14, 3) := by decide +kernel
theorem dX7_cost_11 : decode cX7_cost 11 = .ok (.aload_n 0, 1) := by decide +kernel
theorem dX7_cost_12 : decode cX7_cost 12 = .ok (.getfield 10, 3) := by decide +kernel
theorem dX7_cost_15 : decode cX7_cost 15 = .ok (.iload_n 2, 1) := by decide +kernel
theorem dX7_cost_16 : decode cX7_cost 16 = .ok (.invokevirtual 94, 3) := by decide +kernel
theorem dX7_cost_19 : decode cX7_cost 19 = .ok (.ifCond .ne 9, 3) := by decide +kernel
theorem dX7_cost_22 : decode cX7_cost 22 = .ok (.aload_n 0, 1) := by decide +kernel
theorem dX7_cost_23 : decode cX7_cost 23 = .ok (.iconst (-1), 1) := by decide +kernel
theorem dX7_cost_24 : decode cX7_cost 24 = .ok (.invokevirtual 65, 3) := by decide +kernel
theorem dX7_cost_27 : decode cX7_cost 27 = .ok (.ireturn, 1) := by decide +kernel
theorem dX7_cost_28 : decode cX7_cost 28 = .ok (.aload_n 0, 1) := by decide +kernel
theorem dX7_cost_29 : decode cX7_cost 29 = .ok (.getfield 10, 3) := by decide +kernel
theorem dX7_cost_32 : decode cX7_cost 32 = .ok (.iload_n 1, 1) := by decide +kernel
theorem dX7_cost_33 : decode cX7_cost 33 = .ok (.iload_n 2, 1) := by decide +kernel
theorem dX7_cost_34 : decode cX7_cost 34 = .ok (.invokevirtual 115, 3) := by decide +kernel
theorem dX7_cost_37 : decode cX7_cost 37 = .ok (.ifCond .ne 10, 3) := by decide +kernel
theorem dX7_cost_40 : decode cX7_cost 40 = .ok (.aload_n 0, 1) := by decide +kernel
theorem dX7_cost_41 : decode cX7_cost 41 = .ok (.bipush (-3), 2) := by decide +kernel
theorem dX7_cost_43 : decode cX7_cost 43 = .ok (.invokevirtual 65, 3) := by decide +kernel
theorem dX7_cost_46 : decode cX7_cost 46 = .ok (.ireturn, 1) := by decide +kernel
theorem dX7_cost_47 : decode cX7_cost 47 = .ok (.aload_n 0, 1) := by decide +kernel
theorem dX7_cost_48 : decode cX7_cost 48 = .ok (.getfield 10, 3) := by decide +kernel
theorem dX7_cost_51 : decode cX7_cost 51 = .ok (.iload_n 1, 1) := by decide +kernel
theorem dX7_cost_52 : decode cX7_cost 52 = .ok (.invokevirtual 118, 3) := by decide +kernel
theorem dX7_cost_55 : decode cX7_cost 55 = .ok (.aload_n 0, 1) := by decide +kernel
theorem dX7_cost_56 : decode cX7_cost 56 = .ok (.getfield 10, 3) := by decide +kernel
theorem dX7_cost_59 : decode cX7_cost 59 = .ok (.iload_n 2, 1) := by decide +kernel
theorem dX7_cost_60 : decode cX7_cost 60 = .ok (.invokevirtual 118, 3) := by decide +kernel
theorem dX7_cost_63 : decode cX7_cost 63 = .ok (.iadd, 1) := by decide +kernel
theorem dX7_cost_64 : decode cX7_cost 64 = .ok (.ireturn, 1) := by decide +kernel
set_option maxRecDepth 20000 in
theorem ggX7_add_X5_has : GoodIn wsX7_add wsX5_has := goodIn_r _ [6, 7, 95, 96, 97, 98, 99, 100, 101, 102, 103, 104, 105] (by decide +kernel) (by decide +kernel)
set_option maxRecDepth 20000 in
theorem gX7_add_X5_has : GoodIn wsX7_add (wsV RX7 94 RX5 yX5_has wsX5_has) := goodIn_app (goodIn_of _ (by decide +kernel)) ggX7_add_X5_has
set_option maxRecDepth 20000 in
theorem ggX7_add_X7_refuse : GoodIn wsX7_add wsX7_refuse := goodIn_r _ [12, 13, 85, 86, 87, 88, 89, 90, 91, 92, 93, 94] (by decide +kernel) (by decide +kernel)
set_option maxRecDepth 20000 in
theorem gX7_add_X7_refuse : GoodIn wsX7_add (wsV RX7 65 RX7 yX7_refuse wsX7_refuse) := goodIn_app (goodIn_of _ (by decide +kernel)) ggX7_add_X7_refuse
set_option maxRecDepth 20000 in
theorem ggX7_add_X5_isKind : GoodIn wsX7_add wsX5_isKind := goodIn_r _ [16] (by decide +kernel) (by decide +kernel)
set_option maxRecDepth 20000 in
theorem gX7_add_X5_isKind : GoodIn wsX7_add (va_wsS RX7 121 yX5_isKind wsX5_isKind) := goodIn_app (goodIn_of _ (by decide +kernel)) ggX7_add_X5_isKind
set_option maxRecDepth 20000 in
theorem ggX7_add_X5_mayBe : GoodIn wsX7_add wsX5_mayBe := goodIn_r _ [20, 21, 22, 23, 24, 5, 25, 26, 27, 3, 4, 6, 7, 28, 29, 30, 31, 32, 33, 34, 35, 36, 37, 38, 39, 40, 41, 42, 43, 44, 45, 46, 47, 48, 49, 50, 95, 96, 97, 98, 99, 100, 101, 102, 103, 104, 105] (by decide +kernel) (by decide +kernel)
set_option maxRecDepth 20000 in
theorem gX7_add_X5_mayBe : GoodIn wsX7_add (wsV RX7 115 RX5 yX5_mayBe wsX5_mayBe) := goodIn_app (goodIn_of _ (by decide +kernel)) ggX7_add_X5_mayBe
set_option maxRecDepth 20000 in
theorem ggX7_add_X5_build : GoodIn wsX7_add wsX5_build := goodIn_r _ [54, 21, 55, 56, 57, 5, 58, 7, 59, 15, 16, 60, 18, 19, 20, 22, 23, 24, 25, 26, 27, 3, 4, 6, 28, 29, 30, 31, 32, 33, 34, 35, 36, 37, 38, 39, 40, 41, 42, 43, 44, 45, 46, 47, 48, 49, 50, 61, 62, 63, 64, 65, 66, 67, 68, 69, 70, 71, 72, 73, 74, 75, 76, 77, 78, 79, 80, 95, 96, 97, 98, 99, 100, 101, 102, 103, 104, 105] (by decide +kernel) (by decide +kernel)
set_option maxRecDepth 20000 in
theorem gX7_add_X5_build : GoodIn wsX7_add (wsV RX7 124 RX5 yX5_build wsX5_build) := goodIn_app (goodIn_of _ (by decide +kernel)) ggX7_add_X5_build
set_option maxRecDepth 20000 in
theorem ggX7_add_X5_cameCount : GoodIn wsX7_add wsX5_cameCount := goodIn_r _ [84, 7, 95, 96, 97, 98, 99, 100, 101, 102, 103, 104, 105] (by decide +kernel) (by decide +kernel)
set_option maxRecDepth 20000 in
theorem gX7_add_X5_cameCount : GoodIn wsX7_add (wsV RX7 128 RX5 yX5_cameCount wsX5_cameCount) := goodIn_app (goodIn_of _ (by decide +kernel)) ggX7_add_X5_cameCount
theorem dX7_add_0 : decode cX7_add 0 = .ok (.aload_n 0, 1) := by decide +kernel
theorem dX7_add_1 : decode cX7_add 1 = .ok (.getfield 10, 3) := by decide +kernel
theorem dX7_add_4 : decode cX7_add 4 = .ok (.iload_n 1, 1) := by decide +kernel
theorem dX7_add_5 : decode cX7_add 5 = .ok (.invokevirtual 94, 3) := by decide +kernel
theorem dX7_add_8 : decode cX7_add 8 = .ok (.ifCond .eq 14, 3) := by decide +kernel
theorem dX7_add_11 : decode cX7_add 11 = .ok (.aload_n 0, 1) := by decide +kernel
theorem dX7_add_12 : decode cX7_add 12 = .ok (.getfield 10, 3) := by decide +kernel
theorem dX7_add_15 : decode cX7_add 15 = .ok (.iload_n 2, 1) := by decide +kernel
theorem dX7_add_16 : decode cX7_add 16 = .ok (.invokevirtual 94, 3) := by decide +kernel
theorem dX7_add_19 : decode cX7_add 19 = .ok (.ifCond .ne 9, 3) := by decide +kernel
theorem dX7_add_22 : decode cX7_add 22 = .ok (.aload_n 0, 1) := by decide +kernel
theorem dX7_add_23 : decode cX7_add 23 = .ok (.iconst (-1), 1) := by decide +kernel
theorem dX7_add_24 : decode cX7_add 24 = .ok (.invokevirtual 65, 3) := by decide +kernel
theorem dX7_add_27 : decode cX7_add 27 = .ok (.ireturn, 1) := by decide +kernel
theorem dX7_add_28 : decode cX7_add 28 = .ok (.iload_n 3, 1) := by decide +kernel
theorem dX7_add_29 : decode cX7_add 29 = .ok (.invokestatic 121, 3) := by decide +kernel
theorem dX7_add_32 : decode cX7_add 32 = .ok (.ifCond .ne 10, 3) := by decide +kernel
theorem dX7_add_35 : decode cX7_add 35 = .ok (.aload_n 0, 1) := by decide +kernel
theorem dX7_add_36 : decode cX7_add 36 = .ok (.bipush (-2), 2) := by decide +kernel
theorem dX7_add_38 : decode cX7_add 38 = .ok (.invokevirtual 65, 3) := by decide +kernel
theorem dX7_add_41 : decode cX7_add 41 = .ok (.ireturn, 1) := by decide +kernel
theorem dX7_add_42 : decode cX7_add 42 = .ok (.iload 4, 2) := by decide +kernel
theorem dX7_add_44 : decode cX7_add 44 = .ok (.ifCond .ge 10, 3) := by decide +kernel
theorem dX7_add_47 : decode cX7_add 47 = .ok (.aload_n 0, 1) := by decide +kernel
theorem dX7_add_48 : decode cX7_add 48 = .ok (.bipush (-4), 2) := by decide +kernel
theorem dX7_add_50 : decode cX7_add 50 = .ok (.invokevirtual 65, 3) := by decide +kernel
theorem dX7_add_53 : decode cX7_add 53 = .ok (.ireturn, 1) := by decide +kernel
theorem dX7_add_54 : decode cX7_add 54 = .ok (.iload 4, 2) := by decide +kernel
theorem dX7_add_56 : decode cX7_add 56 = .ok (.bipush 9, 2) := by decide +kernel
theorem dX7_add_58 : decode cX7_add 58 = .ok (.if_icmp .le 10, 3) := by decide +kernel
theorem dX7_add_61 : decode cX7_add 61 = .ok (.aload_n 0, 1) := by decide +kernel
theorem dX7_add_62 : decode cX7_add 62 = .ok (.bipush (-6), 2) := by decide +kernel
theorem dX7_add_64 : decode cX7_add 64 = .ok (.invokevirtual 65, 3) := by decide +kernel
theorem dX7_add_67 : decode cX7_add 67 = .ok (.ireturn, 1) := by decide +kernel
theorem dX7_add_68 : decode cX7_add 68 = .ok (.aload_n 0, 1) := by decide +kernel
theorem dX7_add_69 : decode cX7_add 69 = .ok (.getfield 10, 3) := by decide +kernel
theorem dX7_add_72 : decode cX7_add 72 = .ok (.iload_n 1, 1) := by decide +kernel
theorem dX7_add_73 : decode cX7_add 73 = .ok (.iload_n 2, 1) := by decide +kernel
theorem dX7_add_74 : decode cX7_add 74 = .ok (.invokevirtual 115, 3) := by decide +kernel
theorem dX7_add_77 : decode cX7_add 77 = .ok (.ifCond .ne 10, 3) := by decide +kernel
theorem dX7_add_80 : decode cX7_add 80 = .ok (.aload_n 0, 1) := by decide +kernel
theorem dX7_add_81 : decode cX7_add 81 = .ok (.bipush (-3), 2) := by decide +kernel
theorem dX7_add_83 : decode cX7_add 83 = .ok (.invokevirtual 65, 3) := by decide +kernel
theorem dX7_add_86 : decode cX7_add 86 = .ok (.ireturn, 1) := by decide +kernel
theorem dX7_add_87 : decode cX7_add 87 = .ok (.aload_n 0, 1) := by decide +kernel
theorem dX7_add_88 : decode cX7_add 88 = .ok (.getfield 10, 3) := by decide +kernel
theorem dX7_add_91 : decode cX7_add 91 = .ok (.iload_n 1, 1) := by decide +kernel
theorem dX7_add_92 : decode cX7_add 92 = .ok (.iload_n 2, 1) := by decide +kernel
theorem dX7_add_93 : decode cX7_add 93 = .ok (.iload_n 3, 1) := by decide +kernel
theorem dX7_add_94 : decode cX7_add 94 = .ok (.iload 4, 2) := by decide +kernel
theorem dX7_add_96 : decode cX7_add 96 = .ok (.invokevirtual 124, 3) := by decide +kernel
theorem dX7_add_99 : decode cX7_add 99 = .ok (.ifCond .ne 10, 3) := by decide +kernel
theorem dX7_add_102 : decode cX7_add 102 = .ok (.aload_n 0, 1) := by decide +kernel
theorem dX7_add_103 : decode cX7_add 103 = .ok (.bipush (-6), 2) := by decide +kernel
theorem dX7_add_105 : decode cX7_add 105 = .ok (.invokevirtual 65, 3) := by decide +kernel
theorem dX7_add_108 : decode cX7_add 108 = .ok (.ireturn, 1) := by decide +kernel
theorem dX7_add_109 : decode cX7_add 109 = .ok (.aload_n 0, 1) := by decide +kernel
theorem dX7_add_110 : decode cX7_add 110 = .ok (.getfield 10, 3) := by decide +kernel
theorem dX7_add_113 : decode cX7_add 113 = .ok (.invokevirtual 128, 3) := by decide +kernel
theorem dX7_add_116 : decode cX7_add 116 = .ok (.iconst 1, 1) := by decide +kernel
theorem dX7_add_117 : decode cX7_add 117 = .ok (.isub, 1) := by decide +kernel
theorem dX7_add_118 : decode cX7_add 118 = .ok (.ireturn, 1) := by decide +kernel
set_option maxRecDepth 20000 in
theorem ggX7_burn_X5_has : GoodIn wsX7_burn wsX5_has := goodIn_r _ [6, 7, 53, 54, 55, 56, 57, 58, 59, 60, 61, 62, 63] (by decide +kernel) (by decide +kernel)
set_option maxRecDepth 20000 in
theorem gX7_burn_X5_has : GoodIn wsX7_burn (wsV RX7 94 RX5 yX5_has wsX5_has) := goodIn_app (goodIn_of _ (by decide +kernel)) ggX7_burn_X5_has
set_option maxRecDepth 20000 in
theorem ggX7_burn_X7_refuse : GoodIn wsX7_burn wsX7_refuse := goodIn_r _ [12, 13, 43, 44, 45, 46, 47, 48, 49, 50, 51, 52] (by decide +kernel) (by decide +kernel)
set_option maxRecDepth 20000 in
theorem gX7_burn_X7_refuse : GoodIn wsX7_burn (wsV RX7 65 RX7 yX7_refuse wsX7_refuse) := goodIn_app (goodIn_of _ (by decide +kernel)) ggX7_burn_X7_refuse
set_option maxRecDepth 20000 in
theorem ggX7_burn_X5_stands : GoodIn wsX7_burn wsX5_stands := goodIn_r _ [17, 18, 19, 3, 4, 5, 6, 7, 20, 21, 22, 53, 54, 55, 56, 57, 58, 59, 60, 61, 62, 63] (by decide +kernel) (by decide +kernel)
set_option maxRecDepth 20000 in
theorem gX7_burn_X5_stands : GoodIn wsX7_burn (wsV RX7 112 RX5 yX5_stands wsX5_stands) := goodIn_app (goodIn_of _ (by decide +kernel)) ggX7_burn_X5_stands
set_option maxRecDepth 20000 in
theorem ggX7_burn_X5_fire : GoodIn wsX7_burn wsX5_fire := goodIn_r _ [26, 18, 27, 28, 29, 5, 30, 7, 31, 32, 33, 34, 35, 15, 16, 17, 19, 3, 4, 6, 20, 21, 22, 36, 37, 38, 39, 40, 41, 42, 53, 54, 55, 56, 57, 58, 59, 60, 61, 62, 63] (by decide +kernel) (by decide +kernel)
set_option maxRecDepth 20000 in
theorem gX7_burn_X5_fire : GoodIn wsX7_burn (wsV RX7 131 RX5 yX5_fire wsX5_fire) := goodIn_app (goodIn_of _ (by decide +kernel)) ggX7_burn_X5_fire
theorem dX7_burn_0 : decode cX7_burn 0 = .ok (.aload_n 0, 1) := by decide +kernel
theorem dX7_burn_1 : decode cX7_burn 1 = .ok (.getfield 10, 3) := by decide +kernel
theorem dX7_burn_4 : decode cX7_burn 4 = .ok (.iload_n 1, 1) := by decide +kernel
theorem dX7_burn_5 : decode cX7_burn 5 = .ok (.invokevirtual 94, 3) := by decide +kernel
theorem dX7_burn_8 : decode cX7_burn 8 = .ok (.ifCond .ne 9, 3) := by decide +kernel
theorem dX7_burn_11 : decode cX7_burn 11 = .ok (.aload_n 0, 1) := by decide +kernel
theorem dX7_burn_12 : decode cX7_burn 12 = .ok (.iconst (-1), 1) := by decide +kernel
theorem dX7_burn_13 : decode cX7_burn 13 = .ok (.invokevirtual 65, 3) := by decide +kernel
theorem dX7_burn_16 : decode cX7_burn 16 = .ok (.ireturn, 1) := by decide +kernel
theorem dX7_burn_17 : decode cX7_burn 17 = .ok (.aload_n 0, 1) := by decide +kernel
theorem dX7_burn_18 : decode cX7_burn 18 = .ok (.getfield 10, 3) := by decide +kernel
theorem dX7_burn_21 : decode cX7_burn 21 = .ok (.iload_n 1, 1) := by decide +kernel
theorem dX7_burn_22 : decode cX7_burn 22 = .ok (.invokevirtual 112, 3) := by decide +kernel
theorem dX7_burn_25 : decode cX7_burn 25 = .ok (.ifCond .ne 10, 3) := by decide +kernel
theorem dX7_burn_28 : decode cX7_burn 28 = .ok (.aload_n 0, 1) := by decide +kernel
theorem dX7_burn_29 : decode cX7_burn 29 = .ok (.bipush (-3), 2) := by decide +kernel
theorem dX7_burn_31 : decode cX7_burn 31 = .ok (.invokevirtual 65, 3) := by decide +kernel
theorem dX7_burn_34 : decode cX7_burn 34 = .ok (.ireturn, 1) := by decide +kernel
theorem dX7_burn_35 : decode cX7_burn 35 = .ok (.aload_n 0, 1) := by decide +kernel
theorem dX7_burn_36 : decode cX7_burn 36 = .ok (.getfield 10, 3) := by decide +kernel
theorem dX7_burn_39 : decode cX7_burn 39 = .ok (.iload_n 1, 1) := by decide +kernel
theorem dX7_burn_40 : decode cX7_burn 40 = .ok (.invokevirtual 131, 3) := by decide +kernel
theorem dX7_burn_43 : decode cX7_burn 43 = .ok (.ireturn, 1) := by decide +kernel
set_option maxRecDepth 20000 in
theorem ggX7_hangs_X5_has : GoodIn wsX7_hangs wsX5_has := goodIn_r _ [6, 7, 42, 43, 44, 45, 46, 47, 48, 49, 50, 51, 52] (by decide +kernel) (by decide +kernel)
set_option maxRecDepth 20000 in
theorem gX7_hangs_X5_has : GoodIn wsX7_hangs (wsV RX7 94 RX5 yX5_has wsX5_has) := goodIn_app (goodIn_of _ (by decide +kernel)) ggX7_hangs_X5_has
set_option maxRecDepth 20000 in
theorem ggX7_hangs_X7_refuse : GoodIn wsX7_hangs wsX7_refuse := goodIn_r _ [12, 13, 32, 33, 34, 35, 36, 37, 38, 39, 40, 41] (by decide +kernel) (by decide +kernel)
set_option maxRecDepth 20000 in
theorem gX7_hangs_X7_refuse : GoodIn wsX7_hangs (wsV RX7 65 RX7 yX7_refuse wsX7_refuse) := goodIn_app (goodIn_of _ (by decide +kernel)) ggX7_hangs_X7_refuse
set_option maxRecDepth 20000 in
theorem ggX7_hangs_X5_stands : GoodIn wsX7_hangs wsX5_stands := goodIn_r _ [17, 18, 19, 3, 4, 5, 6, 7, 20, 21, 22, 42, 43, 44, 45, 46, 47, 48, 49, 50, 51, 52] (by decide +kernel) (by decide +kernel)
set_option maxRecDepth 20000 in
theorem gX7_hangs_X5_stands : GoodIn wsX7_hangs (wsV RX7 112 RX5 yX5_stands wsX5_stands) := goodIn_app (goodIn_of _ (by decide +kernel)) ggX7_hangs_X5_stands
set_option maxRecDepth 20000 in
theorem ggX7_hangs_X5_fallsWith : GoodIn wsX7_hangs wsX5_fallsWith := goodIn_r _ [26, 18, 7, 27, 28, 29, 30, 31, 15, 16, 5, 17, 19, 3, 4, 6, 20, 21, 22, 42, 43, 44, 45, 46, 47, 48, 49, 50, 51, 52] (by decide +kernel) (by decide +kernel)
set_option maxRecDepth 20000 in
theorem gX7_hangs_X5_fallsWith : GoodIn wsX7_hangs (wsV RX7 134 RX5 yX5_fallsWith wsX5_fallsWith) := goodIn_app (goodIn_of _ (by decide +kernel)) ggX7_hangs_X5_fallsWith
theorem dX7_hangs_0 : decode cX7_hangs 0 = .ok (.aload_n 0, 1) := by decide +kernel
theorem dX7_hangs_1 : decode cX7_hangs 1 = .ok (.getfield 10, 3) := by decide +kernel
theorem dX7_hangs_4 : decode cX7_hangs 4 = .ok (.iload_n 1, 1) := by decide +kernel
theorem dX7_hangs_5 : decode cX7_hangs 5 = .ok (.invokevirtual 94, 3) := by decide +kernel
theorem dX7_hangs_8 : decode cX7_hangs 8 = .ok (.ifCond .ne 9, 3) := by decide +kernel
theorem dX7_hangs_11 : decode cX7_hangs 11 = .ok (.aload_n 0, 1) := by decide +kernel
theorem dX7_hangs_12 : decode cX7_hangs 12 = .ok (.iconst (-1), 1) := by decide +kernel
theorem dX7_hangs_13 : decode cX7_hangs 13 = .ok (.invokevirtual 65, 3) := by decide +kernel
theorem dX7_hangs_16 : decode cX7_hangs 16 = .ok (.ireturn, 1) := by decide +kernel
theorem dX7_hangs_17 : decode cX7_hangs 17 = .ok (.aload_n 0, 1) := by decide +kernel
theorem dX7_hangs_18 : decode cX7_hangs 18 = .ok (.getfield 10, 3) := by decide +kernel
theorem dX7_hangs_21 : decode cX7_hangs 21 = .ok (.iload_n 1, 1) := by decide +kernel
theorem dX7_hangs_22 : decode cX7_hangs 22 = .ok (.invokevirtual 112, 3) := by decide +kernel
theorem dX7_hangs_25 : decode cX7_hangs 25 = .ok (.ifCond .ne 10, 3) := by decide +kernel
theorem dX7_hangs_28 : decode cX7_hangs 28 = .ok (.aload_n 0, 1) := by decide +kernel
theorem dX7_hangs_29 : decode cX7_hangs 29 = .ok (.bipush (-3), 2) := by decide +kernel
theorem dX7_hangs_31 : decode cX7_hangs 31 = .ok (.invokevirtual 65, 3) := by decide +kernel
theorem dX7_hangs_34 : decode cX7_hangs 34 = .ok (.ireturn, 1) := by decide +kernel
theorem dX7_hangs_35 : decode cX7_hangs 35 = .ok (.aload_n 0, 1) := by decide +kernel
theorem dX7_hangs_36 : decode cX7_hangs 36 = .ok (.getfield 10, 3) := by decide +kernel
theorem dX7_hangs_39 : decode cX7_hangs 39 = .ok (.iload_n 1, 1) := by decide +kernel
theorem dX7_hangs_40 : decode cX7_hangs 40 = .ok (.invokevirtual 134, 3) := by decide +kernel
theorem dX7_hangs_43 : decode cX7_hangs 43 = .ok (.ireturn, 1) := by decide +kernel
set_option maxRecDepth 20000 in
theorem ggX7_save_X5_cameCount : GoodIn wsX7_save wsX5_cameCount := goodIn_r _ [6, 7, 46, 47, 48, 49, 50, 51, 52, 53, 54, 55, 56] (by decide +kernel) (by decide +kernel)
set_option maxRecDepth 20000 in
theorem gX7_save_X5_cameCount : GoodIn wsX7_save (wsV RX7 128 RX5 yX5_cameCount wsX5_cameCount) := goodIn_app (goodIn_of _ (by decide +kernel)) ggX7_save_X5_cameCount
set_option maxRecDepth 20000 in
theorem ggX7_save_X5_stands : GoodIn wsX7_save wsX5_stands := goodIn_r _ [11, 12, 13, 14, 15, 5, 16, 7, 17, 18, 19, 46, 47, 48, 49, 50, 51, 52, 53, 54, 55, 56] (by decide +kernel) (by decide +kernel)
set_option maxRecDepth 20000 in
theorem gX7_save_X5_stands : GoodIn wsX7_save (wsV RX7 112 RX5 yX5_stands wsX5_stands) := goodIn_app (goodIn_of _ (by decide +kernel)) ggX7_save_X5_stands
set_option maxRecDepth 20000 in
theorem ggX7_save_X5_fallsWith : GoodIn wsX7_save wsX5_fallsWith := goodIn_r _ [23, 12, 7, 24, 25, 26, 27, 28, 9, 10, 5, 11, 13, 14, 15, 16, 17, 18, 19, 46, 47, 48, 49, 50, 51, 52, 53, 54, 55, 56] (by decide +kernel) (by decide +kernel)
set_option maxRecDepth 20000 in
theorem gX7_save_X5_fallsWith : GoodIn wsX7_save (wsV RX7 134 RX5 yX5_fallsWith wsX5_fallsWith) := goodIn_app (goodIn_of _ (by decide +kernel)) ggX7_save_X5_fallsWith
set_option maxRecDepth 20000 in
theorem ggX7_save_J6_bitCount_0f7a4 : GoodIn wsX7_save wsJ6_bitCount_0f7a4 := goodIn_r _ [32, 33, 34, 35] (by decide +kernel) (by decide +kernel)
set_option maxRecDepth 20000 in
theorem gX7_save_J6_bitCount_0f7a4 : GoodIn wsX7_save (va_wsS RX7 137 yJ6_bitCount_0f7a4 wsJ6_bitCount_0f7a4) := goodIn_app (goodIn_of _ (by decide +kernel)) ggX7_save_J6_bitCount_0f7a4
theorem dX7_save_0 : decode cX7_save 0 = .ok (.bipush (-9), 2) := by decide +kernel
theorem dX7_save_2 : decode cX7_save 2 = .ok (.istore_n 1, 1) := by decide +kernel
theorem dX7_save_3 : decode cX7_save 3 = .ok (.iconst 0, 1) := by decide +kernel
theorem dX7_save_4 : decode cX7_save 4 = .ok (.istore_n 2, 1) := by decide +kernel
theorem dX7_save_5 : decode cX7_save 5 = .ok (.iconst 0, 1) := by decide +kernel
theorem dX7_save_6 : decode cX7_save 6 = .ok (.istore_n 3, 1) := by decide +kernel
theorem dX7_save_7 : decode cX7_save 7 = .ok (.iload_n 3, 1) := by decide +kernel
theorem dX7_save_8 : decode cX7_save 8 = .ok (.aload_n 0, 1) := by decide +kernel
theorem dX7_save_9 : decode cX7_save 9 = .ok (.getfield 10, 3) := by decide +kernel
theorem dX7_save_12 : decode cX7_save 12 = .ok (.invokevirtual 128, 3) := by decide +kernel
theorem dX7_save_15 : decode cX7_save 15 = .ok (.if_icmp .ge 48, 3) := by decide +kernel
theorem dX7_save_18 : decode cX7_save 18 = .ok (.aload_n 0, 1) := by decide +kernel
theorem dX7_save_19 : decode cX7_save 19 = .ok (.getfield 10, 3) := by decide +kernel
theorem dX7_save_22 : decode cX7_save 22 = .ok (.iload_n 3, 1) := by decide +kernel
theorem dX7_save_23 : decode cX7_save 23 = .ok (.invokevirtual 112, 3) := by decide +kernel
theorem dX7_save_26 : decode cX7_save 26 = .ok (.ifCond .eq 17, 3) := by decide +kernel
theorem dX7_save_29 : decode cX7_save 29 = .ok (.aload_n 0, 1) := by decide +kernel
theorem dX7_save_30 : decode cX7_save 30 = .ok (.getfield 10, 3) := by decide +kernel
theorem dX7_save_33 : decode cX7_save 33 = .ok (.iload_n 3, 1) := by decide +kernel
theorem dX7_save_34 : decode cX7_save 34 = .ok (.invokevirtual 134, 3) := by decide +kernel
theorem dX7_save_37 : decode cX7_save 37 = .ok (.invokestatic 137, 3) := by decide +kernel
theorem dX7_save_40 : decode cX7_save 40 = .ok (.goto 4, 3) := by decide +kernel
theorem dX7_save_43 : decode cX7_save 43 = .ok (.iconst 0, 1) := by decide +kernel
theorem dX7_save_44 : decode cX7_save 44 = .ok (.istore 4, 2) := by decide +kernel
theorem dX7_save_46 : decode cX7_save 46 = .ok (.iload 4, 2) := by decide +kernel
theorem dX7_save_48 : decode cX7_save 48 = .ok (.iload_n 2, 1) := by decide +kernel
theorem dX7_save_49 : decode cX7_save 49 = .ok (.if_icmp .le 8, 3) := by decide +kernel
theorem dX7_save_52 : decode cX7_save 52 = .ok (.iload 4, 2) := by decide +kernel
theorem dX7_save_54 : decode cX7_save 54 = .ok (.istore_n 2, 1) := by decide +kernel
theorem dX7_save_55 : decode cX7_save 55 = .ok (.iload_n 3, 1) := by decide +kernel
theorem dX7_save_56 : decode cX7_save 56 = .ok (.istore_n 1, 1) := by decide +kernel
theorem dX7_save_57 : decode cX7_save 57 = .ok (.iinc 3 1, 3) := by decide +kernel
theorem dX7_save_60 : decode cX7_save 60 = .ok (.goto (-53), 3) := by decide +kernel
theorem dX7_save_63 : decode cX7_save 63 = .ok (.iload_n 1, 1) := by decide +kernel
theorem dX7_save_64 : decode cX7_save 64 = .ok (.ireturn, 1) := by decide +kernel
set_option maxRecDepth 20000 in
theorem ggX7_fewest_X7_outside : GoodIn wsX7_fewest wsX7_outside := goodIn_r _ [5] (by decide +kernel) (by decide +kernel)
set_option maxRecDepth 20000 in
theorem gX7_fewest_X7_outside : GoodIn wsX7_fewest (va_wsS RX7 142 yX7_outside wsX7_outside) := goodIn_app (goodIn_of _ (by decide +kernel)) ggX7_fewest_X7_outside
set_option maxRecDepth 20000 in
theorem ggX7_fewest_X7_refuse : GoodIn wsX7_fewest wsX7_refuse := goodIn_r _ [9, 10, 33, 34, 35, 36, 37, 38, 39, 40, 41, 42] (by decide +kernel) (by decide +kernel)
set_option maxRecDepth 20000 in
theorem gX7_fewest_X7_refuse : GoodIn wsX7_fewest (wsV RX7 65 RX7 yX7_refuse wsX7_refuse) := goodIn_app (goodIn_of _ (by decide +kernel)) ggX7_fewest_X7_refuse
set_option maxRecDepth 20000 in
theorem ggX7_fewest_X0_shortest : GoodIn wsX7_fewest wsX0_shortest := goodIn_r _ [15, 16, 17, 18, 14, 19, 20, 21, 22, 23, 24, 25, 26, 27, 28, 29, 30, 31, 32, 43] (by decide +kernel) (by decide +kernel)
set_option maxRecDepth 20000 in
theorem gX7_fewest_X0_shortest : GoodIn wsX7_fewest (wsV RX7 146 RX0 yX0_shortest wsX0_shortest) := goodIn_app (goodIn_of _ (by decide +kernel)) ggX7_fewest_X0_shortest
theorem dX7_fewest_0 : decode cX7_fewest 0 = .ok (.iload_n 1, 1) := by decide +kernel
theorem dX7_fewest_1 : decode cX7_fewest 1 = .ok (.iconst 1, 1) := by decide +kernel
theorem dX7_fewest_2 : decode cX7_fewest 2 = .ok (.bipush 100, 2) := by decide +kernel
theorem dX7_fewest_4 : decode cX7_fewest 4 = .ok (.invokestatic 142, 3) := by decide +kernel
theorem dX7_fewest_7 : decode cX7_fewest 7 = .ok (.istore_n 2, 1) := by decide +kernel
theorem dX7_fewest_8 : decode cX7_fewest 8 = .ok (.iload_n 2, 1) := by decide +kernel
theorem dX7_fewest_9 : decode cX7_fewest 9 = .ok (.ifCond .eq 11, 3) := by decide +kernel
theorem dX7_fewest_12 : decode cX7_fewest 12 = .ok (.aload_n 0, 1) := by decide +kernel
theorem dX7_fewest_13 : decode cX7_fewest 13 = .ok (.iload_n 2, 1) := by decide +kernel
theorem dX7_fewest_14 : decode cX7_fewest 14 = .ok (.invokevirtual 65, 3) := by decide +kernel
theorem dX7_fewest_17 : decode cX7_fewest 17 = .ok (.goto 12, 3) := by decide +kernel
theorem dX7_fewest_20 : decode cX7_fewest 20 = .ok (.aload_n 0, 1) := by decide +kernel
theorem dX7_fewest_21 : decode cX7_fewest 21 = .ok (.getfield 39, 3) := by decide +kernel
theorem dX7_fewest_24 : decode cX7_fewest 24 = .ok (.iconst 1, 1) := by decide +kernel
theorem dX7_fewest_25 : decode cX7_fewest 25 = .ok (.iload_n 1, 1) := by decide +kernel
theorem dX7_fewest_26 : decode cX7_fewest 26 = .ok (.invokevirtual 146, 3) := by decide +kernel
theorem dX7_fewest_29 : decode cX7_fewest 29 = .ok (.ireturn, 1) := by decide +kernel
set_option maxRecDepth 20000 in
theorem ggX7_chain_X7_refuse : GoodIn wsX7_chain wsX7_refuse := goodIn_r _ [6, 7, 37, 38, 39, 40, 41, 42, 43, 44, 45, 46] (by decide +kernel) (by decide +kernel)
set_option maxRecDepth 20000 in
theorem gX7_chain_X7_refuse : GoodIn wsX7_chain (wsV RX7 65 RX7 yX7_refuse wsX7_refuse) := goodIn_app (goodIn_of _ (by decide +kernel)) ggX7_chain_X7_refuse
set_option maxRecDepth 20000 in
theorem ggX7_chain_X7_outside : GoodIn wsX7_chain wsX7_outside := goodIn_r _ [10] (by decide +kernel) (by decide +kernel)
set_option maxRecDepth 20000 in
theorem gX7_chain_X7_outside : GoodIn wsX7_chain (va_wsS RX7 142 yX7_outside wsX7_outside) := goodIn_app (goodIn_of _ (by decide +kernel)) ggX7_chain_X7_outside
set_option maxRecDepth 20000 in
theorem ggX7_chain_X0_shortest : GoodIn wsX7_chain wsX0_shortest := goodIn_r _ [15, 16, 17, 18, 14, 19, 20, 21, 22, 23, 24, 25, 26, 27, 28, 29, 30, 31, 32, 47] (by decide +kernel) (by decide +kernel)
set_option maxRecDepth 20000 in
theorem gX7_chain_X0_shortest : GoodIn wsX7_chain (wsV RX7 146 RX0 yX0_shortest wsX0_shortest) := goodIn_app (goodIn_of _ (by decide +kernel)) ggX7_chain_X0_shortest
set_option maxRecDepth 20000 in
theorem ggX7_chain_X0_numberAt : GoodIn wsX7_chain wsX0_numberAt := goodIn_r _ [36, 16, 47] (by decide +kernel) (by decide +kernel)
set_option maxRecDepth 20000 in
theorem gX7_chain_X0_numberAt : GoodIn wsX7_chain (wsV RX7 149 RX0 yX0_numberAt wsX0_numberAt) := goodIn_app (goodIn_of _ (by decide +kernel)) ggX7_chain_X0_numberAt
theorem dX7_chain_0 : decode cX7_chain 0 = .ok (.iload_n 2, 1) := by decide +kernel
theorem dX7_chain_1 : decode cX7_chain 1 = .ok (.ifCond .ge 10, 3) := by decide +kernel
theorem dX7_chain_4 : decode cX7_chain 4 = .ok (.aload_n 0, 1) := by decide +kernel
theorem dX7_chain_5 : decode cX7_chain 5 = .ok (.bipush (-4), 2) := by decide +kernel
theorem dX7_chain_7 : decode cX7_chain 7 = .ok (.invokevirtual 65, 3) := by decide +kernel
theorem dX7_chain_10 : decode cX7_chain 10 = .ok (.ireturn, 1) := by decide +kernel
theorem dX7_chain_11 : decode cX7_chain 11 = .ok (.iload_n 1, 1) := by decide +kernel
theorem dX7_chain_12 : decode cX7_chain 12 = .ok (.iconst 1, 1) := by decide +kernel
theorem dX7_chain_13 : decode cX7_chain 13 = .ok (.bipush 100, 2) := by decide +kernel
theorem dX7_chain_15 : decode cX7_chain 15 = .ok (.invokestatic 142, 3) := by decide +kernel
theorem dX7_chain_18 : decode cX7_chain 18 = .ok (.istore_n 3, 1) := by decide +kernel
theorem dX7_chain_19 : decode cX7_chain 19 = .ok (.iload_n 3, 1) := by decide +kernel
theorem dX7_chain_20 : decode cX7_chain 20 = .ok (.ifCond .eq 9, 3) := by decide +kernel
theorem dX7_chain_23 : decode cX7_chain 23 = .ok (.aload_n 0, 1) := by decide +kernel
theorem dX7_chain_24 : decode cX7_chain 24 = .ok (.iload_n 3, 1) := by decide +kernel
theorem dX7_chain_25 : decode cX7_chain 25 = .ok (.invokevirtual 65, 3) := by decide +kernel
theorem dX7_chain_28 : decode cX7_chain 28 = .ok (.ireturn, 1) := by decide +kernel
theorem dX7_chain_29 : decode cX7_chain 29 = .ok (.iload_n 2, 1) := by decide +kernel
theorem dX7_chain_30 : decode cX7_chain 30 = .ok (.aload_n 0, 1) := by decide +kernel
theorem dX7_chain_31 : decode cX7_chain 31 = .ok (.getfield 39, 3) := by decide +kernel
theorem dX7_chain_34 : decode cX7_chain 34 = .ok (.iconst 1, 1) := by decide +kernel
theorem dX7_chain_35 : decode cX7_chain 35 = .ok (.iload_n 1, 1) := by decide +kernel
theorem dX7_chain_36 : decode cX7_chain 36 = .ok (.invokevirtual 146, 3) := by decide +kernel
theorem dX7_chain_39 : decode cX7_chain 39 = .ok (.if_icmp .ge 14, 3) := by decide +kernel
theorem dX7_chain_42 : decode cX7_chain 42 = .ok (.aload_n 0, 1) := by decide +kernel
theorem dX7_chain_43 : decode cX7_chain 43 = .ok (.getfield 39, 3) := by decide +kernel
theorem dX7_chain_46 : decode cX7_chain 46 = .ok (.iload_n 2, 1) := by decide +kernel
theorem dX7_chain_47 : decode cX7_chain 47 = .ok (.invokevirtual 149, 3) := by decide +kernel
theorem dX7_chain_50 : decode cX7_chain 50 = .ok (.goto 5, 3) := by decide +kernel
theorem dX7_chain_53 : decode cX7_chain 53 = .ok (.bipush (-9), 2) := by decide +kernel
theorem dX7_chain_55 : decode cX7_chain 55 = .ok (.ireturn, 1) := by decide +kernel
set_option maxRecDepth 20000 in
theorem ggX7_way_X7_isOneOfTwo : GoodIn wsX7_way wsX7_isOneOfTwo := goodIn_r _ [4] (by decide +kernel) (by decide +kernel)
set_option maxRecDepth 20000 in
theorem gX7_way_X7_isOneOfTwo : GoodIn wsX7_way (va_wsS RX7 152 yX7_isOneOfTwo wsX7_isOneOfTwo) := goodIn_app (goodIn_of _ (by decide +kernel)) ggX7_way_X7_isOneOfTwo
set_option maxRecDepth 20000 in
theorem ggX7_way_X7_outside : GoodIn wsX7_way wsX7_outside := goodIn_r _ [7] (by decide +kernel) (by decide +kernel)
set_option maxRecDepth 20000 in
theorem gX7_way_X7_outside : GoodIn wsX7_way (va_wsS RX7 142 yX7_outside wsX7_outside) := goodIn_app (goodIn_of _ (by decide +kernel)) ggX7_way_X7_outside
set_option maxRecDepth 20000 in
theorem ggX7_way_X7_refuse : GoodIn wsX7_way wsX7_refuse := goodIn_r _ [11, 12, 37, 38, 39, 40, 41, 42, 43, 44, 45, 46] (by decide +kernel) (by decide +kernel)
set_option maxRecDepth 20000 in
theorem gX7_way_X7_refuse : GoodIn wsX7_way (wsV RX7 65 RX7 yX7_refuse wsX7_refuse) := goodIn_app (goodIn_of _ (by decide +kernel)) ggX7_way_X7_refuse
set_option maxRecDepth 20000 in
theorem ggX7_way_X0_byHalves : GoodIn wsX7_way wsX0_byHalves := goodIn_r _ [16, 17, 18, 19, 20, 21, 22, 23, 24, 25, 26, 27] (by decide +kernel) (by decide +kernel)
set_option maxRecDepth 20000 in
theorem gX7_way_X0_byHalves : GoodIn wsX7_way (va_wsS RX7 155 yX0_byHalves wsX0_byHalves) := goodIn_app (goodIn_of _ (by decide +kernel)) ggX7_way_X0_byHalves
set_option maxRecDepth 20000 in
theorem ggX7_way_X0_byFactors : GoodIn wsX7_way wsX0_byFactors := goodIn_r _ [30, 31, 32, 15, 33, 34, 35, 36] (by decide +kernel) (by decide +kernel)
set_option maxRecDepth 20000 in
theorem gX7_way_X0_byFactors : GoodIn wsX7_way (va_wsS RX7 158 yX0_byFactors wsX0_byFactors) := goodIn_app (goodIn_of _ (by decide +kernel)) ggX7_way_X0_byFactors
theorem dX7_way_0 : decode cX7_way 0 = .ok (.iload_n 2, 1) := by decide +kernel
theorem dX7_way_1 : decode cX7_way 1 = .ok (.invokestatic 152, 3) := by decide +kernel
theorem dX7_way_4 : decode cX7_way 4 = .ok (.ifCond .eq 14, 3) := by decide +kernel
theorem dX7_way_7 : decode cX7_way 7 = .ok (.iload_n 1, 1) := by decide +kernel
theorem dX7_way_8 : decode cX7_way 8 = .ok (.iconst 1, 1) := by decide +kernel
theorem dX7_way_9 : decode cX7_way 9 = .ok (.sipush 300, 3) := by decide +kernel
theorem dX7_way_12 : decode cX7_way 12 = .ok (.invokestatic 142, 3) := by decide +kernel
theorem dX7_way_15 : decode cX7_way 15 = .ok (.goto 5, 3) := by decide +kernel
theorem dX7_way_18 : decode cX7_way 18 = .ok (.bipush (-2), 2) := by decide +kernel
theorem dX7_way_20 : decode cX7_way 20 = .ok (.istore_n 3, 1) := by decide +kernel
theorem dX7_way_21 : decode cX7_way 21 = .ok (.iload_n 3, 1) := by decide +kernel
theorem dX7_way_22 : decode cX7_way 22 = .ok (.ifCond .eq 9, 3) := by decide +kernel
theorem dX7_way_25 : decode cX7_way 25 = .ok (.aload_n 0, 1) := by decide +kernel
theorem dX7_way_26 : decode cX7_way 26 = .ok (.iload_n 3, 1) := by decide +kernel
theorem dX7_way_27 : decode cX7_way 27 = .ok (.invokevirtual 65, 3) := by decide +kernel
theorem dX7_way_30 : decode cX7_way 30 = .ok (.ireturn, 1) := by decide +kernel
theorem dX7_way_31 : decode cX7_way 31 = .ok (.iload_n 2, 1) := by decide +kernel
theorem dX7_way_32 : decode cX7_way 32 = .ok (.ifCond .ne 10, 3) := by decide +kernel
theorem dX7_way_35 : decode cX7_way 35 = .ok (.iload_n 1, 1) := by decide +kernel
theorem dX7_way_36 : decode cX7_way 36 = .ok (.invokestatic 155, 3) := by decide +kernel
theorem dX7_way_39 : decode cX7_way 39 = .ok (.goto 7, 3) := by decide +kernel
theorem dX7_way_42 : decode cX7_way 42 = .ok (.iload_n 1, 1) := by decide +kernel
theorem dX7_way_43 : decode cX7_way 43 = .ok (.invokestatic 158, 3) := by decide +kernel
theorem dX7_way_46 : decode cX7_way 46 = .ok (.ireturn, 1) := by decide +kernel
set_option maxRecDepth 20000 in
theorem ggX7_both_X7_outside : GoodIn wsX7_both wsX7_outside := goodIn_r _ [12] (by decide +kernel) (by decide +kernel)
set_option maxRecDepth 20000 in
theorem gX7_both_X7_outside : GoodIn wsX7_both (va_wsS RX7 142 yX7_outside wsX7_outside) := goodIn_app (goodIn_of _ (by decide +kernel)) ggX7_both_X7_outside
set_option maxRecDepth 20000 in
theorem ggX7_both_X7_refuse : GoodIn wsX7_both wsX7_refuse := goodIn_r _ [16, 17, 35, 36, 37, 38, 39, 40, 41, 42, 43, 44] (by decide +kernel) (by decide +kernel)
set_option maxRecDepth 20000 in
theorem gX7_both_X7_refuse : GoodIn wsX7_both (wsV RX7 65 RX7 yX7_refuse wsX7_refuse) := goodIn_app (goodIn_of _ (by decide +kernel)) ggX7_both_X7_refuse
set_option maxRecDepth 20000 in
theorem ggX7_both_X0_shortest : GoodIn wsX7_both wsX0_shortest := goodIn_r _ [22, 23, 24, 25, 21, 26, 27, 2, 3, 4, 28, 29, 30, 31, 6, 7, 32, 33, 34, 45] (by decide +kernel) (by decide +kernel)
set_option maxRecDepth 20000 in
theorem gX7_both_X0_shortest : GoodIn wsX7_both (wsV RX7 146 RX0 yX0_shortest wsX0_shortest) := goodIn_app (goodIn_of _ (by decide +kernel)) ggX7_both_X0_shortest
theorem dX7_both_0 : decode cX7_both 0 = .ok (.iload_n 1, 1) := by decide +kernel
theorem dX7_both_1 : decode cX7_both 1 = .ok (.iload_n 2, 1) := by decide +kernel
theorem dX7_both_2 : decode cX7_both 2 = .ok (.invokestatic 161, 3) := by decide +kernel
theorem dX7_both_5 : decode cX7_both 5 = .ok (.istore_n 3, 1) := by decide +kernel
theorem dX7_both_6 : decode cX7_both 6 = .ok (.iload_n 1, 1) := by decide +kernel
theorem dX7_both_7 : decode cX7_both 7 = .ok (.iload_n 2, 1) := by decide +kernel
theorem dX7_both_8 : decode cX7_both 8 = .ok (.invokestatic 166, 3) := by decide +kernel
theorem dX7_both_11 : decode cX7_both 11 = .ok (.istore 4, 2) := by decide +kernel
theorem dX7_both_13 : decode cX7_both 13 = .ok (.iload_n 3, 1) := by decide +kernel
theorem dX7_both_14 : decode cX7_both 14 = .ok (.iconst 1, 1) := by decide +kernel
theorem dX7_both_15 : decode cX7_both 15 = .ok (.if_icmp .ge 8, 3) := by decide +kernel
theorem dX7_both_18 : decode cX7_both 18 = .ok (.bipush (-4), 2) := by decide +kernel
theorem dX7_both_20 : decode cX7_both 20 = .ok (.goto 11, 3) := by decide +kernel
theorem dX7_both_23 : decode cX7_both 23 = .ok (.iload 4, 2) := by decide +kernel
theorem dX7_both_25 : decode cX7_both 25 = .ok (.iconst 1, 1) := by decide +kernel
theorem dX7_both_26 : decode cX7_both 26 = .ok (.bipush 30, 2) := by decide +kernel
theorem dX7_both_28 : decode cX7_both 28 = .ok (.invokestatic 142, 3) := by decide +kernel
theorem dX7_both_31 : decode cX7_both 31 = .ok (.istore 5, 2) := by decide +kernel
theorem dX7_both_33 : decode cX7_both 33 = .ok (.iload 5, 2) := by decide +kernel
theorem dX7_both_35 : decode cX7_both 35 = .ok (.ifCond .eq 12, 3) := by decide +kernel
theorem dX7_both_38 : decode cX7_both 38 = .ok (.aload_n 0, 1) := by decide +kernel
theorem dX7_both_39 : decode cX7_both 39 = .ok (.iload 5, 2) := by decide +kernel
theorem dX7_both_41 : decode cX7_both 41 = .ok (.invokevirtual 65, 3) := by decide +kernel
theorem dX7_both_44 : decode cX7_both 44 = .ok (.goto 13, 3) := by decide +kernel
theorem dX7_both_47 : decode cX7_both 47 = .ok (.aload_n 0, 1) := by decide +kernel
theorem dX7_both_48 : decode cX7_both 48 = .ok (.getfield 39, 3) := by decide +kernel
theorem dX7_both_51 : decode cX7_both 51 = .ok (.iload_n 3, 1) := by decide +kernel
theorem dX7_both_52 : decode cX7_both 52 = .ok (.iload 4, 2) := by decide +kernel
theorem dX7_both_54 : decode cX7_both 54 = .ok (.invokevirtual 146, 3) := by decide +kernel
theorem dX7_both_57 : decode cX7_both 57 = .ok (.ireturn, 1) := by decide +kernel
set_option maxRecDepth 20000 in
theorem ggX7_far_X7_outside : GoodIn wsX7_far wsX7_outside := goodIn_r _ [4] (by decide +kernel) (by decide +kernel)
set_option maxRecDepth 20000 in
theorem gX7_far_X7_outside : GoodIn wsX7_far (va_wsS RX7 142 yX7_outside wsX7_outside) := goodIn_app (goodIn_of _ (by decide +kernel)) ggX7_far_X7_outside
set_option maxRecDepth 20000 in
theorem ggX7_far_X7_refuse : GoodIn wsX7_far wsX7_refuse := goodIn_r _ [8, 9, 10, 11, 12, 13, 14, 15, 16, 17, 18, 19] (by decide +kernel) (by decide +kernel)
set_option maxRecDepth 20000 in
theorem gX7_far_X7_refuse : GoodIn wsX7_far (wsV RX7 65 RX7 yX7_refuse wsX7_refuse) := goodIn_app (goodIn_of _ (by decide +kernel)) ggX7_far_X7_refuse
theorem dX7_far_0 : decode cX7_far 0 = .ok (.iload_n 1, 1) := by decide +kernel
theorem dX7_far_1 : decode cX7_far 1 = .ok (.iconst 1, 1) := by decide +kernel
theorem dX7_far_2 : decode cX7_far 2 = .ok (.bipush 12, 2) := by decide +kernel
theorem dX7_far_4 : decode cX7_far 4 = .ok (.invokestatic 142, 3) := by decide +kernel
theorem dX7_far_7 : decode cX7_far 7 = .ok (.istore_n 2, 1) := by decide +kernel
theorem dX7_far_8 : decode cX7_far 8 = .ok (.iload_n 2, 1) := by decide +kernel
theorem dX7_far_9 : decode cX7_far 9 = .ok (.ifCond .eq 11, 3) := by decide +kernel
theorem dX7_far_12 : decode cX7_far 12 = .ok (.aload_n 0, 1) := by decide +kernel
theorem dX7_far_13 : decode cX7_far 13 = .ok (.iload_n 2, 1) := by decide +kernel
theorem dX7_far_14 : decode cX7_far 14 = .ok (.invokevirtual 65, 3) := by decide +kernel
theorem dX7_far_17 : decode cX7_far 17 = .ok (.goto 8, 3) := by decide +kernel
theorem dX7_far_20 : decode cX7_far 20 = .ok (.iconst 1, 1) := by decide +kernel
theorem dX7_far_21 : decode cX7_far 21 = .ok (.iload_n 1, 1) := by decide +kernel
theorem dX7_far_22 : decode cX7_far 22 = .ok (.iconst 1, 1) := by decide +kernel
theorem dX7_far_23 : decode cX7_far 23 = .ok (.isub, 1) := by decide +kernel
theorem dX7_far_24 : decode cX7_far 24 = .ok (.ishl, 1) := by decide +kernel
theorem dX7_far_25 : decode cX7_far 25 = .ok (.ireturn, 1) := by decide +kernel
set_option maxRecDepth 20000 in
theorem ggX7_can_X7_isOneOfTwo : GoodIn wsX7_can wsX7_isOneOfTwo := goodIn_r _ [6] (by decide +kernel) (by decide +kernel)
set_option maxRecDepth 20000 in
theorem gX7_can_X7_isOneOfTwo : GoodIn wsX7_can (va_wsS RX7 152 yX7_isOneOfTwo wsX7_isOneOfTwo) := goodIn_app (goodIn_of _ (by decide +kernel)) ggX7_can_X7_isOneOfTwo
set_option maxRecDepth 20000 in
theorem ggX7_can_X7_outside : GoodIn wsX7_can wsX7_outside := goodIn_r _ [9] (by decide +kernel) (by decide +kernel)
set_option maxRecDepth 20000 in
theorem gX7_can_X7_outside : GoodIn wsX7_can (va_wsS RX7 142 yX7_outside wsX7_outside) := goodIn_app (goodIn_of _ (by decide +kernel)) ggX7_can_X7_outside
set_option maxRecDepth 20000 in
theorem ggX7_can_X7_refuse : GoodIn wsX7_can wsX7_refuse := goodIn_r _ [13, 14, 46, 47, 48, 49, 50, 51, 52, 53, 54, 55] (by decide +kernel) (by decide +kernel)
set_option maxRecDepth 20000 in
theorem gX7_can_X7_refuse : GoodIn wsX7_can (wsV RX7 65 RX7 yX7_refuse wsX7_refuse) := goodIn_app (goodIn_of _ (by decide +kernel)) ggX7_can_X7_refuse
set_option maxRecDepth 20000 in
theorem ggX7_can_X0_reachable : GoodIn wsX7_can wsX0_reachable := goodIn_r _ [19, 20, 21, 22, 23, 24, 25, 26, 18, 27, 28, 29, 30, 56] (by decide +kernel) (by decide +kernel)
set_option maxRecDepth 20000 in
theorem gX7_can_X0_reachable : GoodIn wsX7_can (wsV RX7 169 RX0 yX0_reachable wsX0_reachable) := goodIn_app (goodIn_of _ (by decide +kernel)) ggX7_can_X0_reachable
set_option maxRecDepth 20000 in
theorem ggX7_can_J13_bitCount_95d88 : GoodIn wsX7_can wsJ13_bitCount_95d88 := goodIn_r _ [34, 35, 36, 37] (by decide +kernel) (by decide +kernel)
set_option maxRecDepth 20000 in
theorem gX7_can_J13_bitCount_95d88 : GoodIn wsX7_can (va_wsS RX7 173 yJ13_bitCount_95d88 wsJ13_bitCount_95d88) := goodIn_app (goodIn_of _ (by decide +kernel)) ggX7_can_J13_bitCount_95d88
set_option maxRecDepth 20000 in
theorem ggX7_can_J13_numberOfTrailingZeros_95d88 : GoodIn wsX7_can wsJ13_numberOfTrailingZeros_95d88 := goodIn_r _ [40, 41, 42, 43, 44, 45] (by decide +kernel) (by decide +kernel)
set_option maxRecDepth 20000 in
theorem gX7_can_J13_numberOfTrailingZeros_95d88 : GoodIn wsX7_can (va_wsS RX7 180 yJ13_numberOfTrailingZeros_95d88 wsJ13_numberOfTrailingZeros_95d88) := goodIn_app (goodIn_of _ (by decide +kernel)) ggX7_can_J13_numberOfTrailingZeros_95d88
theorem dX7_can_0 : decode cX7_can 0 = .ok (.iload_n 2, 1) := by decide +kernel
theorem dX7_can_1 : decode cX7_can 1 = .ok (.invokestatic 152, 3) := by decide +kernel
theorem dX7_can_4 : decode cX7_can 4 = .ok (.ifCond .eq 13, 3) := by decide +kernel
theorem dX7_can_7 : decode cX7_can 7 = .ok (.iload_n 1, 1) := by decide +kernel
theorem dX7_can_8 : decode cX7_can 8 = .ok (.iconst 1, 1) := by decide +kernel
theorem dX7_can_9 : decode cX7_can 9 = .ok (.bipush 7, 2) := by decide +kernel
theorem dX7_can_11 : decode cX7_can 11 = .ok (.invokestatic 142, 3) := by decide +kernel
theorem dX7_can_14 : decode cX7_can 14 = .ok (.goto 5, 3) := by decide +kernel
theorem dX7_can_17 : decode cX7_can 17 = .ok (.bipush (-2), 2) := by decide +kernel
theorem dX7_can_19 : decode cX7_can 19 = .ok (.istore_n 3, 1) := by decide +kernel
theorem dX7_can_20 : decode cX7_can 20 = .ok (.iload_n 3, 1) := by decide +kernel
theorem dX7_can_21 : decode cX7_can 21 = .ok (.ifCond .eq 9, 3) := by decide +kernel
theorem dX7_can_24 : decode cX7_can 24 = .ok (.aload_n 0, 1) := by decide +kernel
theorem dX7_can_25 : decode cX7_can 25 = .ok (.iload_n 3, 1) := by decide +kernel
theorem dX7_can_26 : decode cX7_can 26 = .ok (.invokevirtual 65, 3) := by decide +kernel
theorem dX7_can_29 : decode cX7_can 29 = .ok (.ireturn, 1) := by decide +kernel
theorem dX7_can_30 : decode cX7_can 30 = .ok (.aload_n 0, 1) := by decide +kernel
theorem dX7_can_31 : decode cX7_can 31 = .ok (.getfield 39, 3) := by decide +kernel
theorem dX7_can_34 : decode cX7_can 34 = .ok (.iload_n 1, 1) := by decide +kernel
theorem dX7_can_35 : decode cX7_can 35 = .ok (.invokevirtual 169, 3) := by decide +kernel
theorem dX7_can_38 : decode cX7_can 38 = .ok (.lstore 4, 2) := by decide +kernel
theorem dX7_can_40 : decode cX7_can 40 = .ok (.iload_n 2, 1) := by decide +kernel
theorem dX7_can_41 : decode cX7_can 41 = .ok (.ifCond .ne 11, 3) := by decide +kernel
theorem dX7_can_44 : decode cX7_can 44 = .ok (.lload 4, 2) := by decide +kernel
theorem dX7_can_46 : decode cX7_can 46 = .ok (.invokestatic 173, 3) := by decide +kernel
theorem dX7_can_49 : decode cX7_can 49 = .ok (.goto 14, 3) := by decide +kernel
theorem dX7_can_52 : decode cX7_can 52 = .ok (.lload 4, 2) := by decide +kernel
theorem dX7_can_54 : decode cX7_can 54 = .ok (.ldc2_w 178, 3) := by decide +kernel
theorem dX7_can_57 : decode cX7_can 57 = .ok (.lxor, 1) := by decide +kernel
theorem dX7_can_58 : decode cX7_can 58 = .ok (.invokestatic 180, 3) := by decide +kernel
theorem dX7_can_61 : decode cX7_can 61 = .ok (.iconst 1, 1) := by decide +kernel
theorem dX7_can_62 : decode cX7_can 62 = .ok (.iadd, 1) := by decide +kernel
theorem dX7_can_63 : decode cX7_can 63 = .ok (.ireturn, 1) := by decide +kernel
set_option maxRecDepth 20000 in
theorem ggX7_more_X7_outside : GoodIn wsX7_more wsX7_outside := goodIn_r _ [5] (by decide +kernel) (by decide +kernel)
set_option maxRecDepth 20000 in
theorem gX7_more_X7_outside : GoodIn wsX7_more (va_wsS RX7 142 yX7_outside wsX7_outside) := goodIn_app (goodIn_of _ (by decide +kernel)) ggX7_more_X7_outside
set_option maxRecDepth 20000 in
theorem ggX7_more_X7_refuse : GoodIn wsX7_more wsX7_refuse := goodIn_r _ [9, 10, 104, 105, 106, 107, 108, 109, 110, 111, 112, 113] (by decide +kernel) (by decide +kernel)
set_option maxRecDepth 20000 in
theorem gX7_more_X7_refuse : GoodIn wsX7_more (wsV RX7 65 RX7 yX7_refuse wsX7_refuse) := goodIn_app (goodIn_of _ (by decide +kernel)) ggX7_more_X7_refuse
set_option maxRecDepth 20000 in
theorem ggX7_more_X5_isThere : GoodIn wsX7_more wsX5_isThere := goodIn_r _ [15, 16, 17, 18, 19, 20, 14, 21, 114, 115, 116, 117, 118, 119, 120, 121, 122, 123, 124] (by decide +kernel) (by decide +kernel)
set_option maxRecDepth 20000 in
theorem gX7_more_X5_isThere : GoodIn wsX7_more (wsV RX7 183 RX5 yX5_isThere wsX5_isThere) := goodIn_app (goodIn_of _ (by decide +kernel)) ggX7_more_X5_isThere
set_option maxRecDepth 20000 in
theorem ggX7_more_X5_comesNext : GoodIn wsX7_more wsX5_comesNext := goodIn_r _ [25, 16, 18, 26, 27, 28, 14, 29, 30, 31, 32, 33, 34, 35, 36, 37, 17, 38, 39, 40, 41, 19, 20, 21, 42, 43, 44, 45, 46, 47, 48, 49, 50, 51, 52, 53, 54, 55, 56, 57, 58, 12, 13, 15, 114, 115, 116, 117, 118, 119, 120, 121, 122, 123, 124] (by decide +kernel) (by decide +kernel)
set_option maxRecDepth 20000 in
theorem gX7_more_X5_comesNext : GoodIn wsX7_more (wsV RX7 186 RX5 yX5_comesNext wsX5_comesNext) := goodIn_app (goodIn_of _ (by decide +kernel)) ggX7_more_X5_comesNext
set_option maxRecDepth 20000 in
theorem ggX7_more_X7_comesNextButOne : GoodIn wsX7_more wsX7_comesNextButOne := goodIn_r _ [62, 1, 63, 64, 65, 66, 14, 67, 16, 68, 69, 70, 71, 56, 72, 73, 74, 75, 76, 18, 77, 78, 57, 79, 17, 46, 80, 81, 82, 83, 84, 26, 27, 28, 29, 85, 86, 87, 30, 31, 32, 33, 34, 35, 36, 37, 38, 39, 40, 41, 19, 20, 21, 42, 43, 44, 45, 47, 48, 49, 50, 51, 52, 53, 54, 55, 58, 12, 13, 15, 88, 89, 90, 91, 92, 93, 94, 95, 96, 97, 98, 99, 100, 101, 102, 103, 22, 23, 24, 25, 104, 105, 106, 107, 108, 109, 110, 111, 112, 113, 114, 115, 116, 117, 118, 119, 120, 121, 122, 123, 124] (by decide +kernel) (by decide +kernel)
set_option maxRecDepth 20000 in
theorem gX7_more_X7_comesNextButOne : GoodIn wsX7_more (wsV RX7 189 RX7 yX7_comesNextButOne wsX7_comesNextButOne) := goodIn_app (goodIn_of _ (by decide +kernel)) ggX7_more_X7_comesNextButOne
theorem dX7_more_0 : decode cX7_more 0 = .ok (.iload_n 1, 1) := by decide +kernel
theorem dX7_more_1 : decode cX7_more 1 = .ok (.iconst 1, 1) := by decide +kernel
theorem dX7_more_2 : decode cX7_more 2 = .ok (.sipush 300, 3) := by decide +kernel
theorem dX7_more_5 : decode cX7_more 5 = .ok (.invokestatic 142, 3) := by decide +kernel
theorem dX7_more_8 : decode cX7_more 8 = .ok (.istore_n 2, 1) := by decide +kernel
theorem dX7_more_9 : decode cX7_more 9 = .ok (.iload_n 2, 1) := by decide +kernel
theorem dX7_more_10 : decode cX7_more 10 = .ok (.ifCond .eq 9, 3) := by decide +kernel
theorem dX7_more_13 : decode cX7_more 13 = .ok (.aload_n 0, 1) := by decide +kernel
theorem dX7_more_14 : decode cX7_more 14 = .ok (.iload_n 2, 1) := by decide +kernel
theorem dX7_more_15 : decode cX7_more 15 = .ok (.invokevirtual 65, 3) := by decide +kernel
theorem dX7_more_18 : decode cX7_more 18 = .ok (.ireturn, 1) := by decide +kernel
theorem dX7_more_19 : decode cX7_more 19 = .ok (.aload_n 0, 1) := by decide +kernel
theorem dX7_more_20 : decode cX7_more 20 = .ok (.getfield 10, 3) := by decide +kernel
theorem dX7_more_23 : decode cX7_more 23 = .ok (.iload_n 1, 1) := by decide +kernel
theorem dX7_more_24 : decode cX7_more 24 = .ok (.invokevirtual 183, 3) := by decide +kernel
theorem dX7_more_27 : decode cX7_more 27 = .ok (.ifCond .eq 5, 3) := by decide +kernel
theorem dX7_more_30 : decode cX7_more 30 = .ok (.iconst 0, 1) := by decide +kernel
theorem dX7_more_31 : decode cX7_more 31 = .ok (.ireturn, 1) := by decide +kernel
theorem dX7_more_32 : decode cX7_more 32 = .ok (.aload_n 0, 1) := by decide +kernel
theorem dX7_more_33 : decode cX7_more 33 = .ok (.getfield 10, 3) := by decide +kernel
theorem dX7_more_36 : decode cX7_more 36 = .ok (.iload_n 1, 1) := by decide +kernel
theorem dX7_more_37 : decode cX7_more 37 = .ok (.invokevirtual 186, 3) := by decide +kernel
theorem dX7_more_40 : decode cX7_more 40 = .ok (.ifCond .eq 5, 3) := by decide +kernel
theorem dX7_more_43 : decode cX7_more 43 = .ok (.iconst 1, 1) := by decide +kernel
theorem dX7_more_44 : decode cX7_more 44 = .ok (.ireturn, 1) := by decide +kernel
theorem dX7_more_45 : decode cX7_more 45 = .ok (.aload_n 0, 1) := by decide +kernel
theorem dX7_more_46 : decode cX7_more 46 = .ok (.iload_n 1, 1) := by decide +kernel
theorem dX7_more_47 : decode cX7_more 47 = .ok (.invokevirtual 189, 3) := by decide +kernel
theorem dX7_more_50 : decode cX7_more 50 = .ok (.ifCond .eq 7, 3) := by decide +kernel
theorem dX7_more_53 : decode cX7_more 53 = .ok (.iconst 2, 1) := by decide +kernel
theorem dX7_more_54 : decode cX7_more 54 = .ok (.goto 5, 3) := by decide +kernel
theorem dX7_more_57 : decode cX7_more 57 = .ok (.bipush (-9), 2) := by decide +kernel
theorem dX7_more_59 : decode cX7_more 59 = .ok (.ireturn, 1) := by decide +kernel
set_option maxRecDepth 20000 in
theorem ggX7_orders_X3_of : GoodIn wsX7_orders wsX3_of := goodIn_r _ [7, 8, 9, 10, 11, 12, 13, 14, 15, 16, 17, 6, 18, 19, 20, 21, 22, 23, 24, 25, 26, 27, 28, 29, 30, 31, 32, 33, 34, 35, 36, 37, 38, 39, 40, 51, 52, 53, 54, 55, 56, 57, 58, 59, 60, 61, 62] (by decide +kernel) (by decide +kernel)
set_option maxRecDepth 20000 in
theorem gX7_orders_X3_of : GoodIn wsX7_orders (wsV RX7 192 RX3 yX3_of wsX3_of) := goodIn_app (goodIn_of _ (by decide +kernel)) ggX7_orders_X3_of
theorem dX7_orders_0 : decode cX7_orders 0 = .ok (.aload_n 0, 1) := by decide +kernel
theorem dX7_orders_1 : decode cX7_orders 1 = .ok (.getfield 46, 3) := by decide +kernel
theorem dX7_orders_4 : decode cX7_orders 4 = .ok (.aload_n 0, 1) := by decide +kernel
theorem dX7_orders_5 : decode cX7_orders 5 = .ok (.getfield 10, 3) := by decide +kernel
theorem dX7_orders_8 : decode cX7_orders 8 = .ok (.invokevirtual 192, 3) := by decide +kernel
theorem dX7_orders_11 : decode cX7_orders 11 = .ok (.ireturn, 1) := by decide +kernel
set_option maxRecDepth 20000 in
theorem ggX7_game_X7_outside : GoodIn wsX7_game wsX7_outside := goodIn_r _ [5] (by decide +kernel) (by decide +kernel)
set_option maxRecDepth 20000 in
theorem gX7_game_X7_outside : GoodIn wsX7_game (va_wsS RX7 142 yX7_outside wsX7_outside) := goodIn_app (goodIn_of _ (by decide +kernel)) ggX7_game_X7_outside
set_option maxRecDepth 20000 in
theorem ggX7_game_X7_refuse : GoodIn wsX7_game wsX7_refuse := goodIn_r _ [9, 10, 24, 25, 26, 27, 28, 29, 30, 31, 32, 33] (by decide +kernel) (by decide +kernel)
set_option maxRecDepth 20000 in
theorem gX7_game_X7_refuse : GoodIn wsX7_game (wsV RX7 65 RX7 yX7_refuse wsX7_refuse) := goodIn_app (goodIn_of _ (by decide +kernel)) ggX7_game_X7_refuse
set_option maxRecDepth 20000 in
theorem ggX7_game_X1_isWonByFirst : GoodIn wsX7_game wsX1_isWonByFirst := goodIn_r _ [15, 16, 17, 18, 19, 14, 20, 21, 22, 23, 34] (by decide +kernel) (by decide +kernel)
set_option maxRecDepth 20000 in
theorem gX7_game_X1_isWonByFirst : GoodIn wsX7_game (wsV RX7 195 RX1 yX1_isWonByFirst wsX1_isWonByFirst) := goodIn_app (goodIn_of _ (by decide +kernel)) ggX7_game_X1_isWonByFirst
theorem dX7_game_0 : decode cX7_game 0 = .ok (.iload_n 1, 1) := by decide +kernel
theorem dX7_game_1 : decode cX7_game 1 = .ok (.iconst 2, 1) := by decide +kernel
theorem dX7_game_2 : decode cX7_game 2 = .ok (.bipush 12, 2) := by decide +kernel
theorem dX7_game_4 : decode cX7_game 4 = .ok (.invokestatic 142, 3) := by decide +kernel
theorem dX7_game_7 : decode cX7_game 7 = .ok (.istore_n 2, 1) := by decide +kernel
theorem dX7_game_8 : decode cX7_game 8 = .ok (.iload_n 2, 1) := by decide +kernel
theorem dX7_game_9 : decode cX7_game 9 = .ok (.ifCond .eq 9, 3) := by decide +kernel
theorem dX7_game_12 : decode cX7_game 12 = .ok (.aload_n 0, 1) := by decide +kernel
theorem dX7_game_13 : decode cX7_game 13 = .ok (.iload_n 2, 1) := by decide +kernel
theorem dX7_game_14 : decode cX7_game 14 = .ok (.invokevirtual 65, 3) := by decide +kernel
theorem dX7_game_17 : decode cX7_game 17 = .ok (.ireturn, 1) := by decide +kernel
theorem dX7_game_18 : decode cX7_game 18 = .ok (.aload_n 0, 1) := by decide +kernel
theorem dX7_game_19 : decode cX7_game 19 = .ok (.getfield 53, 3) := by decide +kernel
theorem dX7_game_22 : decode cX7_game 22 = .ok (.iload_n 1, 1) := by decide +kernel
theorem dX7_game_23 : decode cX7_game 23 = .ok (.invokevirtual 195, 3) := by decide +kernel
theorem dX7_game_26 : decode cX7_game 26 = .ok (.ifCond .eq 7, 3) := by decide +kernel
theorem dX7_game_29 : decode cX7_game 29 = .ok (.iconst 1, 1) := by decide +kernel
theorem dX7_game_30 : decode cX7_game 30 = .ok (.goto 4, 3) := by decide +kernel
theorem dX7_game_33 : decode cX7_game 33 = .ok (.iconst 0, 1) := by decide +kernel
theorem dX7_game_34 : decode cX7_game 34 = .ok (.ireturn, 1) := by decide +kernel
set_option maxRecDepth 20000 in
theorem ggX7_row_X7_outside : GoodIn wsX7_row wsX7_outside := goodIn_r _ [5] (by decide +kernel) (by decide +kernel)
set_option maxRecDepth 20000 in
theorem gX7_row_X7_outside : GoodIn wsX7_row (va_wsS RX7 142 yX7_outside wsX7_outside) := goodIn_app (goodIn_of _ (by decide +kernel)) ggX7_row_X7_outside
set_option maxRecDepth 20000 in
theorem ggX7_row_X6_hasRoom : GoodIn wsX7_row wsX6_hasRoom := goodIn_r _ [11, 12, 13, 38, 39, 40, 41, 42, 43, 44, 45, 46] (by decide +kernel) (by decide +kernel)
set_option maxRecDepth 20000 in
theorem gX7_row_X6_hasRoom_u198X4 : GoodIn wsX7_row (va_wsU RX7 198 RX4 "SumOfTwoThatStand$Told" ⟨"SumOfTwoThatStand$Row", "hasRoom", "()Z"⟩ yX6_hasRoom wsX6_hasRoom) := goodIn_app (goodIn_of _ (by decide +kernel)) ggX7_row_X6_hasRoom
set_option maxRecDepth 20000 in
theorem ggX7_row_X7_refuse : GoodIn wsX7_row wsX7_refuse := goodIn_r _ [17, 18, 28, 29, 30, 31, 32, 33, 34, 35, 36, 37] (by decide +kernel) (by decide +kernel)
set_option maxRecDepth 20000 in
theorem gX7_row_X7_refuse : GoodIn wsX7_row (wsV RX7 65 RX7 yX7_refuse wsX7_refuse) := goodIn_app (goodIn_of _ (by decide +kernel)) ggX7_row_X7_refuse
set_option maxRecDepth 20000 in
theorem ggX7_row_X6_take : GoodIn wsX7_row wsX6_take := goodIn_r _ [23, 13, 12, 24, 25, 26, 9, 10, 11, 27, 38, 39, 40, 41, 42, 43, 44, 45, 46] (by decide +kernel) (by decide +kernel)
set_option maxRecDepth 20000 in
theorem gX7_row_X6_take_u199X4 : GoodIn wsX7_row (va_wsU RX7 199 RX4 "SumOfTwoThatStand$Told" ⟨"SumOfTwoThatStand$Row", "take", "(I)I"⟩ yX6_take wsX6_take) := goodIn_app (goodIn_of _ (by decide +kernel)) ggX7_row_X6_take
theorem dX7_row_0 : decode cX7_row 0 = .ok (.iload_n 1, 1) := by decide +kernel
theorem dX7_row_1 : decode cX7_row 1 = .ok (.iconst 1, 1) := by decide +kernel
theorem dX7_row_2 : decode cX7_row 2 = .ok (.sipush 9999, 3) := by decide +kernel
theorem dX7_row_5 : decode cX7_row 5 = .ok (.invokestatic 142, 3) := by decide +kernel
theorem dX7_row_8 : decode cX7_row 8 = .ok (.istore_n 2, 1) := by decide +kernel
theorem dX7_row_9 : decode cX7_row 9 = .ok (.iload_n 2, 1) := by decide +kernel
theorem dX7_row_10 : decode cX7_row 10 = .ok (.ifCond .ne 16, 3) := by decide +kernel
theorem dX7_row_13 : decode cX7_row 13 = .ok (.aload_n 0, 1) := by decide +kernel
theorem dX7_row_14 : decode cX7_row 14 = .ok (.getfield 32, 3) := by decide +kernel
theorem dX7_row_17 : decode cX7_row 17 = .ok (.invokevirtual 198, 3) := by decide +kernel
theorem dX7_row_20 : decode cX7_row 20 = .ok (.ifCond .ne 6, 3) := by decide +kernel
theorem dX7_row_23 : decode cX7_row 23 = .ok (.bipush (-6), 2) := by decide +kernel
theorem dX7_row_25 : decode cX7_row 25 = .ok (.istore_n 2, 1) := by decide +kernel
theorem dX7_row_26 : decode cX7_row 26 = .ok (.iload_n 2, 1) := by decide +kernel
theorem dX7_row_27 : decode cX7_row 27 = .ok (.ifCond .eq 11, 3) := by decide +kernel
theorem dX7_row_30 : decode cX7_row 30 = .ok (.aload_n 0, 1) := by decide +kernel
theorem dX7_row_31 : decode cX7_row 31 = .ok (.iload_n 2, 1) := by decide +kernel
theorem dX7_row_32 : decode cX7_row 32 = .ok (.invokevirtual 65, 3) := by decide +kernel
theorem dX7_row_35 : decode cX7_row 35 = .ok (.goto 11, 3) := by decide +kernel
theorem dX7_row_38 : decode cX7_row 38 = .ok (.aload_n 0, 1) := by decide +kernel
theorem dX7_row_39 : decode cX7_row 39 = .ok (.getfield 32, 3) := by decide +kernel
theorem dX7_row_42 : decode cX7_row 42 = .ok (.iload_n 1, 1) := by decide +kernel
theorem dX7_row_43 : decode cX7_row 43 = .ok (.invokevirtual 199, 3) := by decide +kernel
theorem dX7_row_46 : decode cX7_row 46 = .ok (.ireturn, 1) := by decide +kernel
set_option maxRecDepth 20000 in
theorem ggX7_judge_X4_firstWrong : GoodIn wsX7_judge wsX4_firstWrong := goodIn_r _ [6, 7, 8, 9, 10, 11, 12, 13, 14, 15, 16, 17, 18, 19, 20, 21, 22, 5, 23, 24, 25, 26, 27, 43, 44, 45, 46, 47, 48, 49, 50, 51] (by decide +kernel) (by decide +kernel)
set_option maxRecDepth 20000 in
theorem gX7_judge_X4_firstWrong : GoodIn wsX7_judge (wsV RX7 200 RX4 yX4_firstWrong wsX4_firstWrong) := goodIn_app (goodIn_of _ (by decide +kernel)) ggX7_judge_X4_firstWrong
set_option maxRecDepth 20000 in
theorem ggX7_judge_X6_forget : GoodIn wsX7_judge wsX6_forget := goodIn_r _ [32, 13, 43, 44, 45, 46, 47, 48, 49, 50, 51] (by decide +kernel) (by decide +kernel)
set_option maxRecDepth 20000 in
theorem gX7_judge_X6_forget_u203X4 : GoodIn wsX7_judge (va_wsU RX7 203 RX4 "SumOfTwoThatStand$Told" ⟨"SumOfTwoThatStand$Row", "forget", "()V"⟩ yX6_forget wsX6_forget) := goodIn_app (goodIn_of _ (by decide +kernel)) ggX7_judge_X6_forget
theorem dX7_judge_0 : decode cX7_judge 0 = .ok (.aload_n 0, 1) := by decide +kernel
theorem dX7_judge_1 : decode cX7_judge 1 = .ok (.getfield 32, 3) := by decide +kernel
theorem dX7_judge_4 : decode cX7_judge 4 = .ok (.invokevirtual 200, 3) := by decide +kernel
theorem dX7_judge_7 : decode cX7_judge 7 = .ok (.istore_n 1, 1) := by decide +kernel
theorem dX7_judge_8 : decode cX7_judge 8 = .ok (.aload_n 0, 1) := by decide +kernel
theorem dX7_judge_9 : decode cX7_judge 9 = .ok (.getfield 32, 3) := by decide +kernel
theorem dX7_judge_12 : decode cX7_judge 12 = .ok (.invokevirtual 203, 3) := by decide +kernel
theorem dX7_judge_15 : decode cX7_judge 15 = .ok (.iload_n 1, 1) := by decide +kernel
theorem dX7_judge_16 : decode cX7_judge 16 = .ok (.ireturn, 1) := by decide +kernel
set_option maxRecDepth 20000 in
theorem ggX7_seeds_X7_isOneOfTwo : GoodIn wsX7_seeds wsX7_isOneOfTwo := goodIn_r _ [6] (by decide +kernel) (by decide +kernel)
set_option maxRecDepth 20000 in
theorem gX7_seeds_X7_isOneOfTwo : GoodIn wsX7_seeds (va_wsS RX7 152 yX7_isOneOfTwo wsX7_isOneOfTwo) := goodIn_app (goodIn_of _ (by decide +kernel)) ggX7_seeds_X7_isOneOfTwo
set_option maxRecDepth 20000 in
theorem ggX7_seeds_X7_outside : GoodIn wsX7_seeds wsX7_outside := goodIn_r _ [9] (by decide +kernel) (by decide +kernel)
set_option maxRecDepth 20000 in
theorem gX7_seeds_X7_outside : GoodIn wsX7_seeds (va_wsS RX7 142 yX7_outside wsX7_outside) := goodIn_app (goodIn_of _ (by decide +kernel)) ggX7_seeds_X7_outside
set_option maxRecDepth 20000 in
theorem ggX7_seeds_X7_refuse : GoodIn wsX7_seeds wsX7_refuse := goodIn_r _ [13, 14, 127, 128, 129, 130, 131, 132, 133, 134, 135, 136] (by decide +kernel) (by decide +kernel)
set_option maxRecDepth 20000 in
theorem gX7_seeds_X7_refuse : GoodIn wsX7_seeds (wsV RX7 65 RX7 yX7_refuse wsX7_refuse) := goodIn_app (goodIn_of _ (by decide +kernel)) ggX7_seeds_X7_refuse
set_option maxRecDepth 20000 in
theorem ggX7_seeds_X5_become : GoodIn wsX7_seeds wsX5_become := goodIn_r _ [19, 20, 21, 22, 23, 24, 25, 26, 27, 28, 29, 30, 31, 32, 33, 34, 137, 138, 139, 140, 141, 142, 143, 144, 145, 146, 147] (by decide +kernel) (by decide +kernel)
set_option maxRecDepth 20000 in
theorem gX7_seeds_X5_become : GoodIn wsX7_seeds (wsV RX7 76 RX5 yX5_become wsX5_become) := goodIn_app (goodIn_of _ (by decide +kernel)) ggX7_seeds_X5_become
set_option maxRecDepth 20000 in
theorem ggX7_seeds_X7_sow : GoodIn wsX7_seeds wsX7_sow := goodIn_r _ [37, 38, 39, 5, 40, 41, 42, 43, 44, 18, 45, 31, 46, 47, 48, 49, 50, 51, 52, 53, 26, 54, 55, 56, 57, 58, 59, 60, 61, 62, 63, 64, 65, 66, 67, 68, 32, 69, 70, 71, 72, 73, 74, 75, 76, 77, 78, 79, 33, 80, 81, 82, 83, 84, 85, 86, 87, 88, 20, 29, 89, 90, 91, 92, 93, 94, 95, 96, 27, 28, 25, 30, 97, 98, 99, 100, 101, 102, 103, 104, 105, 106, 107, 108, 137, 138, 139, 140, 141, 142, 143, 144, 145, 146, 147] (by decide +kernel) (by decide +kernel)
set_option maxRecDepth 20000 in
theorem gX7_seeds_X7_sow : GoodIn wsX7_seeds (va_wsS RX7 204 yX7_sow wsX7_sow) := goodIn_app (goodIn_of _ (by decide +kernel)) ggX7_seeds_X7_sow
set_option maxRecDepth 20000 in
theorem ggX7_seeds_X5_standingCount : GoodIn wsX7_seeds wsX5_standingCount := goodIn_r _ [112, 32, 113, 114, 82, 115, 116, 117, 118, 137, 138, 139, 140, 141, 142, 143, 144, 145, 146, 147] (by decide +kernel) (by decide +kernel)
set_option maxRecDepth 20000 in
theorem gX7_seeds_X5_standingCount : GoodIn wsX7_seeds (wsV RX7 208 RX5 yX5_standingCount wsX5_standingCount) := goodIn_app (goodIn_of _ (by decide +kernel)) ggX7_seeds_X5_standingCount
set_option maxRecDepth 20000 in
theorem ggX7_seeds_X5_greatest : GoodIn wsX7_seeds wsX5_greatest := goodIn_r _ [122, 31, 32, 26, 123, 124, 125, 126, 73, 74, 18, 75, 137, 138, 139, 140, 141, 142, 143, 144, 145, 146, 147] (by decide +kernel) (by decide +kernel)
set_option maxRecDepth 20000 in
theorem gX7_seeds_X5_greatest : GoodIn wsX7_seeds (wsV RX7 211 RX5 yX5_greatest wsX5_greatest) := goodIn_app (goodIn_of _ (by decide +kernel)) ggX7_seeds_X5_greatest
theorem dX7_seeds_0 : decode cX7_seeds 0 = .ok (.iload_n 3, 1) := by decide +kernel
theorem dX7_seeds_1 : decode cX7_seeds 1 = .ok (.invokestatic 152, 3) := by decide +kernel
theorem dX7_seeds_4 : decode cX7_seeds 4 = .ok (.ifCond .eq 13, 3) := by decide +kernel
theorem dX7_seeds_7 : decode cX7_seeds 7 = .ok (.iload_n 1, 1) := by decide +kernel
theorem dX7_seeds_8 : decode cX7_seeds 8 = .ok (.iconst 1, 1) := by decide +kernel
theorem dX7_seeds_9 : decode cX7_seeds 9 = .ok (.bipush 40, 2) := by decide +kernel
theorem dX7_seeds_11 : decode cX7_seeds 11 = .ok (.invokestatic 142, 3) := by decide +kernel
theorem dX7_seeds_14 : decode cX7_seeds 14 = .ok (.goto 5, 3) := by decide +kernel
theorem dX7_seeds_17 : decode cX7_seeds 17 = .ok (.bipush (-2), 2) := by decide +kernel
theorem dX7_seeds_19 : decode cX7_seeds 19 = .ok (.istore 4, 2) := by decide +kernel
theorem dX7_seeds_21 : decode cX7_seeds 21 = .ok (.iload 4, 2) := by decide +kernel
theorem dX7_seeds_23 : decode cX7_seeds 23 = .ok (.ifCond .eq 10, 3) := by decide +kernel
theorem dX7_seeds_26 : decode cX7_seeds 26 = .ok (.aload_n 0, 1) := by decide +kernel
theorem dX7_seeds_27 : decode cX7_seeds 27 = .ok (.iload 4, 2) := by decide +kernel
theorem dX7_seeds_29 : decode cX7_seeds 29 = .ok (.invokevirtual 65, 3) := by decide +kernel
theorem dX7_seeds_32 : decode cX7_seeds 32 = .ok (.ireturn, 1) := by decide +kernel
theorem dX7_seeds_33 : decode cX7_seeds 33 = .ok (.aload_n 0, 1) := by decide +kernel
theorem dX7_seeds_34 : decode cX7_seeds 34 = .ok (.getfield 19, 3) := by decide +kernel
theorem dX7_seeds_37 : decode cX7_seeds 37 = .ok (.aload_n 0, 1) := by decide +kernel
theorem dX7_seeds_38 : decode cX7_seeds 38 = .ok (.getfield 10, 3) := by decide +kernel
theorem dX7_seeds_41 : decode cX7_seeds 41 = .ok (.invokevirtual 76, 3) := by decide +kernel
theorem dX7_seeds_44 : decode cX7_seeds 44 = .ok (.aload_n 0, 1) := by decide +kernel
theorem dX7_seeds_45 : decode cX7_seeds 45 = .ok (.getfield 19, 3) := by decide +kernel
theorem dX7_seeds_48 : decode cX7_seeds 48 = .ok (.iload_n 1, 1) := by decide +kernel
theorem dX7_seeds_49 : decode cX7_seeds 49 = .ok (.iload_n 2, 1) := by decide +kernel
theorem dX7_seeds_50 : decode cX7_seeds 50 = .ok (.invokestatic 204, 3) := by decide +kernel
theorem dX7_seeds_53 : decode cX7_seeds 53 = .ok (.iload_n 3, 1) := by decide +kernel
theorem dX7_seeds_54 : decode cX7_seeds 54 = .ok (.ifCond .ne 13, 3) := by decide +kernel
theorem dX7_seeds_57 : decode cX7_seeds 57 = .ok (.aload_n 0, 1) := by decide +kernel
theorem dX7_seeds_58 : decode cX7_seeds 58 = .ok (.getfield 19, 3) := by decide +kernel
theorem dX7_seeds_61 : decode cX7_seeds 61 = .ok (.invokevirtual 208, 3) := by decide +kernel
theorem dX7_seeds_64 : decode cX7_seeds 64 = .ok (.goto 10, 3) := by decide +kernel
theorem dX7_seeds_67 : decode cX7_seeds 67 = .ok (.aload_n 0, 1) := by decide +kernel
theorem dX7_seeds_68 : decode cX7_seeds 68 = .ok (.getfield 19, 3) := by decide +kernel
theorem dX7_seeds_71 : decode cX7_seeds 71 = .ok (.invokevirtual 211, 3) := by decide +kernel
theorem dX7_seeds_74 : decode cX7_seeds 74 = .ok (.ireturn, 1) := by decide +kernel
set_option maxRecDepth 20000 in
theorem ggX7_image_X5_become : GoodIn wsX7_image wsX5_become := goodIn_r _ [8, 9, 10, 11, 12, 13, 14, 15, 16, 17, 18, 19, 20, 21, 22, 23, 38, 39, 40, 41, 42, 43, 44, 45, 46, 47, 48] (by decide +kernel) (by decide +kernel)
set_option maxRecDepth 20000 in
theorem gX7_image_X5_become : GoodIn wsX7_image (wsV RX7 76 RX5 yX5_become wsX5_become) := goodIn_app (goodIn_of _ (by decide +kernel)) ggX7_image_X5_become
set_option maxRecDepth 20000 in
theorem ggX7_image_X5_cameCount : GoodIn wsX7_image wsX5_cameCount := goodIn_r _ [27, 20, 38, 39, 40, 41, 42, 43, 44, 45, 46, 47, 48] (by decide +kernel) (by decide +kernel)
set_option maxRecDepth 20000 in
theorem gX7_image_X5_cameCount : GoodIn wsX7_image (wsV RX7 128 RX5 yX5_cameCount wsX5_cameCount) := goodIn_app (goodIn_of _ (by decide +kernel)) ggX7_image_X5_cameCount
theorem dX7_image_0 : decode cX7_image 0 = .ok (.aload_n 0, 1) := by decide +kernel
theorem dX7_image_1 : decode cX7_image 1 = .ok (.getfield 16, 3) := by decide +kernel
theorem dX7_image_4 : decode cX7_image 4 = .ok (.aload_n 0, 1) := by decide +kernel
theorem dX7_image_5 : decode cX7_image 5 = .ok (.getfield 10, 3) := by decide +kernel
theorem dX7_image_8 : decode cX7_image 8 = .ok (.invokevirtual 76, 3) := by decide +kernel
theorem dX7_image_11 : decode cX7_image 11 = .ok (.aload_n 0, 1) := by decide +kernel
theorem dX7_image_12 : decode cX7_image 12 = .ok (.iconst 1, 1) := by decide +kernel
theorem dX7_image_13 : decode cX7_image 13 = .ok (.putfield 61, 3) := by decide +kernel
theorem dX7_image_16 : decode cX7_image 16 = .ok (.aload_n 0, 1) := by decide +kernel
theorem dX7_image_17 : decode cX7_image 17 = .ok (.getfield 10, 3) := by decide +kernel
theorem dX7_image_20 : decode cX7_image 20 = .ok (.invokevirtual 128, 3) := by decide +kernel
theorem dX7_image_23 : decode cX7_image 23 = .ok (.ireturn, 1) := by decide +kernel
set_option maxRecDepth 20000 in
theorem ggX7_restore_X7_refuse : GoodIn wsX7_restore wsX7_refuse := goodIn_r _ [8, 9, 34, 35, 36, 37, 38, 39, 40, 41, 42, 43] (by decide +kernel) (by decide +kernel)
set_option maxRecDepth 20000 in
theorem gX7_restore_X7_refuse : GoodIn wsX7_restore (wsV RX7 65 RX7 yX7_refuse wsX7_refuse) := goodIn_app (goodIn_of _ (by decide +kernel)) ggX7_restore_X7_refuse
set_option maxRecDepth 20000 in
theorem ggX7_restore_X5_become : GoodIn wsX7_restore wsX5_become := goodIn_r _ [14, 15, 16, 17, 18, 19, 20, 21, 22, 23, 24, 25, 26, 27, 28, 29, 44, 45, 46, 47, 48, 49, 50, 51, 52, 53, 54] (by decide +kernel) (by decide +kernel)
set_option maxRecDepth 20000 in
theorem gX7_restore_X5_become : GoodIn wsX7_restore (wsV RX7 76 RX5 yX5_become wsX5_become) := goodIn_app (goodIn_of _ (by decide +kernel)) ggX7_restore_X5_become
set_option maxRecDepth 20000 in
theorem ggX7_restore_X5_cameCount : GoodIn wsX7_restore wsX5_cameCount := goodIn_r _ [33, 26, 44, 45, 46, 47, 48, 49, 50, 51, 52, 53, 54] (by decide +kernel) (by decide +kernel)
set_option maxRecDepth 20000 in
theorem gX7_restore_X5_cameCount : GoodIn wsX7_restore (wsV RX7 128 RX5 yX5_cameCount wsX5_cameCount) := goodIn_app (goodIn_of _ (by decide +kernel)) ggX7_restore_X5_cameCount
theorem dX7_restore_0 : decode cX7_restore 0 = .ok (.aload_n 0, 1) := by decide +kernel
theorem dX7_restore_1 : decode cX7_restore 1 = .ok (.getfield 61, 3) := by decide +kernel
theorem dX7_restore_4 : decode cX7_restore 4 = .ok (.ifCond .ne 10, 3) := by decide +kernel
theorem dX7_restore_7 : decode cX7_restore 7 = .ok (.aload_n 0, 1) := by decide +kernel
theorem dX7_restore_8 : decode cX7_restore 8 = .ok (.bipush (-3), 2) := by decide +kernel
theorem dX7_restore_10 : decode cX7_restore 10 = .ok (.invokevirtual 65, 3) := by decide +kernel
theorem dX7_restore_13 : decode cX7_restore 13 = .ok (.ireturn, 1) := by decide +kernel
theorem dX7_restore_14 : decode cX7_restore 14 = .ok (.aload_n 0, 1) := by decide +kernel
theorem dX7_restore_15 : decode cX7_restore 15 = .ok (.getfield 10, 3) := by decide +kernel
theorem dX7_restore_18 : decode cX7_restore 18 = .ok (.aload_n 0, 1) := by decide +kernel
theorem dX7_restore_19 : decode cX7_restore 19 = .ok (.getfield 16, 3) := by decide +kernel
theorem dX7_restore_22 : decode cX7_restore 22 = .ok (.invokevirtual 76, 3) := by decide +kernel
theorem dX7_restore_25 : decode cX7_restore 25 = .ok (.aload_n 0, 1) := by decide +kernel
theorem dX7_restore_26 : decode cX7_restore 26 = .ok (.getfield 10, 3) := by decide +kernel
theorem dX7_restore_29 : decode cX7_restore 29 = .ok (.invokevirtual 128, 3) := by decide +kernel
theorem dX7_restore_32 : decode cX7_restore 32 = .ok (.ireturn, 1) := by decide +kernel
set_option maxRecDepth 20000 in
theorem ggX7_count_X5_cameCount : GoodIn wsX7_count wsX5_cameCount := goodIn_r _ [9, 10, 70, 71, 72, 73, 74, 75, 76, 77, 78, 79, 80] (by decide +kernel) (by decide +kernel)
set_option maxRecDepth 20000 in
theorem gX7_count_X5_cameCount : GoodIn wsX7_count (wsV RX7 128 RX5 yX5_cameCount wsX5_cameCount) := goodIn_app (goodIn_of _ (by decide +kernel)) ggX7_count_X5_cameCount
set_option maxRecDepth 20000 in
theorem ggX7_count_X5_standingCount : GoodIn wsX7_count wsX5_standingCount := goodIn_r _ [14, 15, 16, 17, 18, 19, 20, 21, 22, 70, 71, 72, 73, 74, 75, 76, 77, 78, 79, 80] (by decide +kernel) (by decide +kernel)
set_option maxRecDepth 20000 in
theorem gX7_count_X5_standingCount : GoodIn wsX7_count (wsV RX7 208 RX5 yX5_standingCount wsX5_standingCount) := goodIn_app (goodIn_of _ (by decide +kernel)) ggX7_count_X5_standingCount
set_option maxRecDepth 20000 in
theorem ggX7_count_X5_greatest : GoodIn wsX7_count wsX5_greatest := goodIn_r _ [26, 10, 15, 27, 28, 29, 30, 31, 32, 33, 8, 34, 70, 71, 72, 73, 74, 75, 76, 77, 78, 79, 80] (by decide +kernel) (by decide +kernel)
set_option maxRecDepth 20000 in
theorem gX7_count_X5_greatest : GoodIn wsX7_count (wsV RX7 211 RX5 yX5_greatest wsX5_greatest) := goodIn_app (goodIn_of _ (by decide +kernel)) ggX7_count_X5_greatest
set_option maxRecDepth 20000 in
theorem ggX7_count_X5_sumsLaw : GoodIn wsX7_count wsX5_sumsLaw := goodIn_r _ [38, 39, 70, 71, 72, 73, 74, 75, 76, 77, 78, 79, 80] (by decide +kernel) (by decide +kernel)
set_option maxRecDepth 20000 in
theorem gX7_count_X5_sumsLaw : GoodIn wsX7_count (wsV RX7 102 RX5 yX5_sumsLaw wsX5_sumsLaw) := goodIn_app (goodIn_of _ (by decide +kernel)) ggX7_count_X5_sumsLaw
set_option maxRecDepth 20000 in
theorem ggX7_count_X5_fallsLaw : GoodIn wsX7_count wsX5_fallsLaw := goodIn_r _ [43, 44, 70, 71, 72, 73, 74, 75, 76, 77, 78, 79, 80] (by decide +kernel) (by decide +kernel)
set_option maxRecDepth 20000 in
theorem gX7_count_X5_fallsLaw : GoodIn wsX7_count (wsV RX7 105 RX5 yX5_fallsLaw wsX5_fallsLaw) := goodIn_app (goodIn_of _ (by decide +kernel)) ggX7_count_X5_fallsLaw
set_option maxRecDepth 20000 in
theorem ggX7_count_X5_allEarned : GoodIn wsX7_count wsX5_allEarned := goodIn_r _ [48, 10, 49, 70, 71, 72, 73, 74, 75, 76, 77, 78, 79, 80] (by decide +kernel) (by decide +kernel)
set_option maxRecDepth 20000 in
theorem gX7_count_X5_allEarned : GoodIn wsX7_count (wsV RX7 214 RX5 yX5_allEarned wsX5_allEarned) := goodIn_app (goodIn_of _ (by decide +kernel)) ggX7_count_X5_allEarned
set_option maxRecDepth 20000 in
theorem ggX7_count_X6_howMany : GoodIn wsX7_count wsX6_howMany := goodIn_r _ [55, 56, 81, 82, 83, 84, 85, 86, 87, 88, 89] (by decide +kernel) (by decide +kernel)
set_option maxRecDepth 20000 in
theorem gX7_count_X6_howMany_u217X2 : GoodIn wsX7_count (va_wsU RX7 217 RX2 "SumOfTwoThatStand$Told" ⟨"SumOfTwoThatStand$Letters", "howMany", "()I"⟩ yX6_howMany wsX6_howMany) := goodIn_app (goodIn_of _ (by decide +kernel)) ggX7_count_X6_howMany
set_option maxRecDepth 20000 in
theorem gX7_count_X6_howMany_u220X4 : GoodIn wsX7_count (va_wsU RX7 220 RX4 "SumOfTwoThatStand$Told" ⟨"SumOfTwoThatStand$Row", "howMany", "()I"⟩ yX6_howMany wsX6_howMany) := goodIn_app (goodIn_of _ (by decide +kernel)) ggX7_count_X6_howMany
theorem dX7_count_0 : decode cX7_count 0 = .ok (.iload_n 1, 1) := by decide +kernel
theorem dX7_count_1 : decode cX7_count 1 = .ok (.bipush 10, 2) := by decide +kernel
theorem dX7_count_3 : decode cX7_count 3 = .ok (.if_icmp .le 19, 3) := by decide +kernel
theorem dX7_count_6 : decode cX7_count 6 = .ok (.iload_n 1, 1) := by decide +kernel
theorem dX7_count_7 : decode cX7_count 7 = .ok (.bipush 17, 2) := by decide +kernel
theorem dX7_count_9 : decode cX7_count 9 = .ok (.if_icmp .ge 13, 3) := by decide +kernel
theorem dX7_count_12 : decode cX7_count 12 = .ok (.aload_n 0, 1) := by decide +kernel
theorem dX7_count_13 : decode cX7_count 13 = .ok (.getfield 57, 3) := by decide +kernel
theorem dX7_count_16 : decode cX7_count 16 = .ok (.iload_n 1, 1) := by decide +kernel
theorem dX7_count_17 : decode cX7_count 17 = .ok (.bipush 10, 2) := by decide +kernel
theorem dX7_count_19 : decode cX7_count 19 = .ok (.isub, 1) := by decide +kernel
theorem dX7_count_20 : decode cX7_count 20 = .ok (.iaload, 1) := by decide +kernel
theorem dX7_count_21 : decode cX7_count 21 = .ok (.ireturn, 1) := by decide +kernel
theorem dX7_count_22 : decode cX7_count 22 = .ok (.iload_n 1, 1) := by decide +kernel
theorem dX7_count_23 : decode cX7_count 23 = .ok (.tableswitch 109 0 7 #[45, 53, 61, 69, 77, 85, 93, 101], 45) := by decide +kernel
theorem dX7_count_68 : decode cX7_count 68 = .ok (.aload_n 0, 1) := by decide +kernel
theorem dX7_count_69 : decode cX7_count 69 = .ok (.getfield 10, 3) := by decide +kernel
theorem dX7_count_72 : decode cX7_count 72 = .ok (.invokevirtual 128, 3) := by decide +kernel
theorem dX7_count_75 : decode cX7_count 75 = .ok (.ireturn, 1) := by decide +kernel
theorem dX7_count_76 : decode cX7_count 76 = .ok (.aload_n 0, 1) := by decide +kernel
theorem dX7_count_77 : decode cX7_count 77 = .ok (.getfield 10, 3) := by decide +kernel
theorem dX7_count_80 : decode cX7_count 80 = .ok (.invokevirtual 208, 3) := by decide +kernel
theorem dX7_count_83 : decode cX7_count 83 = .ok (.ireturn, 1) := by decide +kernel
theorem dX7_count_84 : decode cX7_count 84 = .ok (.aload_n 0, 1) := by decide +kernel
theorem dX7_count_85 : decode cX7_count 85 = .ok (.getfield 10, 3) := by decide +kernel
theorem dX7_count_88 : decode cX7_count 88 = .ok (.invokevirtual 211, 3) := by decide +kernel
theorem dX7_count_91 : decode cX7_count 91 = .ok (.ireturn, 1) := by decide +kernel
theorem dX7_count_92 : decode cX7_count 92 = .ok (.aload_n 0, 1) := by decide +kernel
theorem dX7_count_93 : decode cX7_count 93 = .ok (.getfield 10, 3) := by decide +kernel
theorem dX7_count_96 : decode cX7_count 96 = .ok (.invokevirtual 102, 3) := by decide +kernel
theorem dX7_count_99 : decode cX7_count 99 = .ok (.ireturn, 1) := by decide +kernel
theorem dX7_count_100 : decode cX7_count 100 = .ok (.aload_n 0, 1) := by decide +kernel
theorem dX7_count_101 : decode cX7_count 101 = .ok (.getfield 10, 3) := by decide +kernel
theorem dX7_count_104 : decode cX7_count 104 = .ok (.invokevirtual 105, 3) := by decide +kernel
theorem dX7_count_107 : decode cX7_count 107 = .ok (.ireturn, 1) := by decide +kernel
theorem dX7_count_108 : decode cX7_count 108 = .ok (.aload_n 0, 1) := by decide +kernel
theorem dX7_count_109 : decode cX7_count 109 = .ok (.getfield 10, 3) := by decide +kernel
theorem dX7_count_112 : decode cX7_count 112 = .ok (.invokevirtual 214, 3) := by decide +kernel
theorem dX7_count_115 : decode cX7_count 115 = .ok (.ireturn, 1) := by decide +kernel
theorem dX7_count_116 : decode cX7_count 116 = .ok (.aload_n 0, 1) := by decide +kernel
theorem dX7_count_117 : decode cX7_count 117 = .ok (.getfield 25, 3) := by decide +kernel
theorem dX7_count_120 : decode cX7_count 120 = .ok (.invokevirtual 217, 3) := by decide +kernel
theorem dX7_count_123 : decode cX7_count 123 = .ok (.ireturn, 1) := by decide +kernel
theorem dX7_count_124 : decode cX7_count 124 = .ok (.aload_n 0, 1) := by decide +kernel
theorem dX7_count_125 : decode cX7_count 125 = .ok (.getfield 32, 3) := by decide +kernel
theorem dX7_count_128 : decode cX7_count 128 = .ok (.invokevirtual 220, 3) := by decide +kernel
theorem dX7_count_131 : decode cX7_count 131 = .ok (.ireturn, 1) := by decide +kernel
theorem dX7_count_132 : decode cX7_count 132 = .ok (.bipush (-9), 2) := by decide +kernel
theorem dX7_count_134 : decode cX7_count 134 = .ok (.ireturn, 1) := by decide +kernel
theorem dX7_refuse_0 : decode cX7_refuse 0 = .ok (.iload_n 1, 1) := by decide +kernel
theorem dX7_refuse_1 : decode cX7_refuse 1 = .ok (.ifCond .ge 24, 3) := by decide +kernel
theorem dX7_refuse_4 : decode cX7_refuse 4 = .ok (.iload_n 1, 1) := by decide +kernel
theorem dX7_refuse_5 : decode cX7_refuse 5 = .ok (.aload_n 0, 1) := by decide +kernel
theorem dX7_refuse_6 : decode cX7_refuse 6 = .ok (.getfield 57, 3) := by decide +kernel
theorem dX7_refuse_9 : decode cX7_refuse 9 = .ok (.arraylength, 1) := by decide +kernel
theorem dX7_refuse_10 : decode cX7_refuse 10 = .ok (.ineg, 1) := by decide +kernel
theorem dX7_refuse_11 : decode cX7_refuse 11 = .ok (.if_icmp .le 14, 3) := by decide +kernel
theorem dX7_refuse_14 : decode cX7_refuse 14 = .ok (.aload_n 0, 1) := by decide +kernel
theorem dX7_refuse_15 : decode cX7_refuse 15 = .ok (.getfield 57, 3) := by decide +kernel
theorem dX7_refuse_18 : decode cX7_refuse 18 = .ok (.iload_n 1, 1) := by decide +kernel
theorem dX7_refuse_19 : decode cX7_refuse 19 = .ok (.ineg, 1) := by decide +kernel
theorem dX7_refuse_20 : decode cX7_refuse 20 = .ok (.dup2, 1) := by decide +kernel
theorem dX7_refuse_21 : decode cX7_refuse 21 = .ok (.iaload, 1) := by decide +kernel
theorem dX7_refuse_22 : decode cX7_refuse 22 = .ok (.iconst 1, 1) := by decide +kernel
theorem dX7_refuse_23 : decode cX7_refuse 23 = .ok (.iadd, 1) := by decide +kernel
theorem dX7_refuse_24 : decode cX7_refuse 24 = .ok (.iastore, 1) := by decide +kernel
theorem dX7_refuse_25 : decode cX7_refuse 25 = .ok (.iload_n 1, 1) := by decide +kernel
theorem dX7_refuse_26 : decode cX7_refuse 26 = .ok (.ireturn, 1) := by decide +kernel
theorem dX7_outside_0 : decode cX7_outside 0 = .ok (.iload_n 0, 1) := by decide +kernel
theorem dX7_outside_1 : decode cX7_outside 1 = .ok (.iload_n 1, 1) := by decide +kernel
theorem dX7_outside_2 : decode cX7_outside 2 = .ok (.if_icmp .ge 6, 3) := by decide +kernel
theorem dX7_outside_5 : decode cX7_outside 5 = .ok (.bipush (-4), 2) := by decide +kernel
theorem dX7_outside_7 : decode cX7_outside 7 = .ok (.ireturn, 1) := by decide +kernel
theorem dX7_outside_8 : decode cX7_outside 8 = .ok (.iload_n 0, 1) := by decide +kernel
theorem dX7_outside_9 : decode cX7_outside 9 = .ok (.iload_n 2, 1) := by decide +kernel
theorem dX7_outside_10 : decode cX7_outside 10 = .ok (.if_icmp .le 8, 3) := by decide +kernel
theorem dX7_outside_13 : decode cX7_outside 13 = .ok (.bipush (-6), 2) := by decide +kernel
theorem dX7_outside_15 : decode cX7_outside 15 = .ok (.goto 4, 3) := by decide +kernel
theorem dX7_outside_18 : decode cX7_outside 18 = .ok (.iconst 0, 1) := by decide +kernel
theorem dX7_outside_19 : decode cX7_outside 19 = .ok (.ireturn, 1) := by decide +kernel
theorem dX7_isOneOfTwo_0 : decode cX7_isOneOfTwo 0 = .ok (.iload_n 0, 1) := by decide +kernel
theorem dX7_isOneOfTwo_1 : decode cX7_isOneOfTwo 1 = .ok (.ifCond .eq 8, 3) := by decide +kernel
theorem dX7_isOneOfTwo_4 : decode cX7_isOneOfTwo 4 = .ok (.iload_n 0, 1) := by decide +kernel
theorem dX7_isOneOfTwo_5 : decode cX7_isOneOfTwo 5 = .ok (.iconst 1, 1) := by decide +kernel
theorem dX7_isOneOfTwo_6 : decode cX7_isOneOfTwo 6 = .ok (.if_icmp .ne 7, 3) := by decide +kernel
theorem dX7_isOneOfTwo_9 : decode cX7_isOneOfTwo 9 = .ok (.iconst 1, 1) := by decide +kernel
theorem dX7_isOneOfTwo_10 : decode cX7_isOneOfTwo 10 = .ok (.goto 4, 3) := by decide +kernel
theorem dX7_isOneOfTwo_13 : decode cX7_isOneOfTwo 13 = .ok (.iconst 0, 1) := by decide +kernel
theorem dX7_isOneOfTwo_14 : decode cX7_isOneOfTwo 14 = .ok (.ireturn, 1) := by decide +kernel
set_option maxRecDepth 20000 in
theorem ggX7_comesNextButOne_X5_cameCount : GoodIn wsX7_comesNextButOne wsX5_cameCount := goodIn_r _ [7, 8, 100, 101, 102, 103, 104, 105, 106, 107, 108, 109, 110] (by decide +kernel) (by decide +kernel)
set_option maxRecDepth 20000 in
theorem gX7_comesNextButOne_X5_cameCount : GoodIn wsX7_comesNextButOne (wsV RX7 128 RX5 yX5_cameCount wsX5_cameCount) := goodIn_app (goodIn_of _ (by decide +kernel)) ggX7_comesNextButOne_X5_cameCount
set_option maxRecDepth 20000 in
theorem ggX7_comesNextButOne_X5_become : GoodIn wsX7_comesNextButOne wsX5_become := goodIn_r _ [12, 13, 14, 15, 16, 17, 18, 19, 20, 21, 22, 23, 8, 24, 25, 26, 100, 101, 102, 103, 104, 105, 106, 107, 108, 109, 110] (by decide +kernel) (by decide +kernel)
set_option maxRecDepth 20000 in
theorem gX7_comesNextButOne_X5_become : GoodIn wsX7_comesNextButOne (wsV RX7 76 RX5 yX5_become wsX5_become) := goodIn_app (goodIn_of _ (by decide +kernel)) ggX7_comesNextButOne_X5_become
set_option maxRecDepth 20000 in
theorem ggX7_comesNextButOne_X5_build : GoodIn wsX7_comesNextButOne wsX5_build := goodIn_r _ [30, 19, 31, 32, 33, 6, 34, 8, 35, 36, 37, 38, 39, 40, 41, 42, 43, 44, 45, 24, 46, 47, 48, 49, 50, 51, 52, 53, 54, 55, 56, 25, 57, 58, 59, 60, 61, 62, 63, 64, 65, 13, 22, 66, 67, 68, 69, 70, 71, 72, 73, 20, 21, 18, 23, 74, 75, 76, 77, 78, 79, 80, 81, 82, 83, 84, 85, 100, 101, 102, 103, 104, 105, 106, 107, 108, 109, 110] (by decide +kernel) (by decide +kernel)
set_option maxRecDepth 20000 in
theorem gX7_comesNextButOne_X5_build : GoodIn wsX7_comesNextButOne (wsV RX7 124 RX5 yX5_build wsX5_build) := goodIn_app (goodIn_of _ (by decide +kernel)) ggX7_comesNextButOne_X5_build
set_option maxRecDepth 20000 in
theorem ggX7_comesNextButOne_X5_comesNext : GoodIn wsX7_comesNextButOne wsX5_comesNext := goodIn_r _ [89, 8, 19, 31, 32, 33, 6, 34, 38, 39, 40, 41, 42, 43, 44, 45, 24, 46, 47, 48, 49, 50, 51, 52, 53, 54, 55, 56, 25, 57, 58, 59, 60, 61, 62, 63, 64, 65, 13, 22, 66, 67, 68, 69, 100, 101, 102, 103, 104, 105, 106, 107, 108, 109, 110] (by decide +kernel) (by decide +kernel)
set_option maxRecDepth 20000 in
theorem gX7_comesNextButOne_X5_comesNext : GoodIn wsX7_comesNextButOne (wsV RX7 186 RX5 yX5_comesNext wsX5_comesNext) := goodIn_app (goodIn_of _ (by decide +kernel)) ggX7_comesNextButOne_X5_comesNext
theorem dX7_comesNextButOne_0 : decode cX7_comesNextButOne 0 = .ok (.iconst 0, 1) := by decide +kernel
theorem dX7_comesNextButOne_1 : decode cX7_comesNextButOne 1 = .ok (.istore_n 2, 1) := by decide +kernel
theorem dX7_comesNextButOne_2 : decode cX7_comesNextButOne 2 = .ok (.iload_n 2, 1) := by decide +kernel
theorem dX7_comesNextButOne_3 : decode cX7_comesNextButOne 3 = .ok (.aload_n 0, 1) := by decide +kernel
theorem dX7_comesNextButOne_4 : decode cX7_comesNextButOne 4 = .ok (.getfield 10, 3) := by decide +kernel
theorem dX7_comesNextButOne_7 : decode cX7_comesNextButOne 7 = .ok (.invokevirtual 128, 3) := by decide +kernel
theorem dX7_comesNextButOne_10 : decode cX7_comesNextButOne 10 = .ok (.if_icmp .ge 66, 3) := by decide +kernel
theorem dX7_comesNextButOne_13 : decode cX7_comesNextButOne 13 = .ok (.iload_n 2, 1) := by decide +kernel
theorem dX7_comesNextButOne_14 : decode cX7_comesNextButOne 14 = .ok (.istore_n 3, 1) := by decide +kernel
theorem dX7_comesNextButOne_15 : decode cX7_comesNextButOne 15 = .ok (.iload_n 3, 1) := by decide +kernel
theorem dX7_comesNextButOne_16 : decode cX7_comesNextButOne 16 = .ok (.aload_n 0, 1) := by decide +kernel
theorem dX7_comesNextButOne_17 : decode cX7_comesNextButOne 17 = .ok (.getfield 10, 3) := by decide +kernel
theorem dX7_comesNextButOne_20 : decode cX7_comesNextButOne 20 = .ok (.invokevirtual 128, 3) := by decide +kernel
theorem dX7_comesNextButOne_23 : decode cX7_comesNextButOne 23 = .ok (.if_icmp .ge 47, 3) := by decide +kernel
theorem dX7_comesNextButOne_26 : decode cX7_comesNextButOne 26 = .ok (.aload_n 0, 1) := by decide +kernel
theorem dX7_comesNextButOne_27 : decode cX7_comesNextButOne 27 = .ok (.getfield 19, 3) := by decide +kernel
theorem dX7_comesNextButOne_30 : decode cX7_comesNextButOne 30 = .ok (.aload_n 0, 1) := by decide +kernel
theorem dX7_comesNextButOne_31 : decode cX7_comesNextButOne 31 = .ok (.getfield 10, 3) := by decide +kernel
theorem dX7_comesNextButOne_34 : decode cX7_comesNextButOne 34 = .ok (.invokevirtual 76, 3) := by decide +kernel
theorem dX7_comesNextButOne_37 : decode cX7_comesNextButOne 37 = .ok (.aload_n 0, 1) := by decide +kernel
theorem dX7_comesNextButOne_38 : decode cX7_comesNextButOne 38 = .ok (.getfield 19, 3) := by decide +kernel
theorem dX7_comesNextButOne_41 : decode cX7_comesNextButOne 41 = .ok (.iload_n 2, 1) := by decide +kernel
theorem dX7_comesNextButOne_42 : decode cX7_comesNextButOne 42 = .ok (.iload_n 3, 1) := by decide +kernel
theorem dX7_comesNextButOne_43 : decode cX7_comesNextButOne 43 = .ok (.iconst 0, 1) := by decide +kernel
theorem dX7_comesNextButOne_44 : decode cX7_comesNextButOne 44 = .ok (.iconst 0, 1) := by decide +kernel
theorem dX7_comesNextButOne_45 : decode cX7_comesNextButOne 45 = .ok (.invokevirtual 124, 3) := by decide +kernel
theorem dX7_comesNextButOne_48 : decode cX7_comesNextButOne 48 = .ok (.ifCond .eq 16, 3) := by decide +kernel
theorem dX7_comesNextButOne_51 : decode cX7_comesNextButOne 51 = .ok (.aload_n 0, 1) := by decide +kernel
theorem dX7_comesNextButOne_52 : decode cX7_comesNextButOne 52 = .ok (.getfield 19, 3) := by decide +kernel
theorem dX7_comesNextButOne_55 : decode cX7_comesNextButOne 55 = .ok (.iload_n 1, 1) := by decide +kernel
theorem dX7_comesNextButOne_56 : decode cX7_comesNextButOne 56 = .ok (.invokevirtual 186, 3) := by decide +kernel
theorem dX7_comesNextButOne_59 : decode cX7_comesNextButOne 59 = .ok (.ifCond .eq 5, 3) := by decide +kernel
theorem dX7_comesNextButOne_62 : decode cX7_comesNextButOne 62 = .ok (.iconst 1, 1) := by decide +kernel
theorem dX7_comesNextButOne_63 : decode cX7_comesNextButOne 63 = .ok (.ireturn, 1) := by decide +kernel
theorem dX7_comesNextButOne_64 : decode cX7_comesNextButOne 64 = .ok (.iinc 3 1, 3) := by decide +kernel
theorem dX7_comesNextButOne_67 : decode cX7_comesNextButOne 67 = .ok (.goto (-52), 3) := by decide +kernel
theorem dX7_comesNextButOne_70 : decode cX7_comesNextButOne 70 = .ok (.iinc 2 1, 3) := by decide +kernel
theorem dX7_comesNextButOne_73 : decode cX7_comesNextButOne 73 = .ok (.goto (-71), 3) := by decide +kernel
theorem dX7_comesNextButOne_76 : decode cX7_comesNextButOne 76 = .ok (.iconst 0, 1) := by decide +kernel
theorem dX7_comesNextButOne_77 : decode cX7_comesNextButOne 77 = .ok (.ireturn, 1) := by decide +kernel
set_option maxRecDepth 20000 in
theorem ggX7_sow_X7_nextSeed : GoodIn wsX7_sow wsX7_nextSeed := goodIn_r _ [4, 5] (by decide +kernel) (by decide +kernel)
set_option maxRecDepth 20000 in
theorem gX7_sow_X7_nextSeed : GoodIn wsX7_sow (va_wsS RX7 221 yX7_nextSeed wsX7_nextSeed) := goodIn_app (goodIn_of _ (by decide +kernel)) ggX7_sow_X7_nextSeed
set_option maxRecDepth 20000 in
theorem ggX7_sow_X5_cameCount : GoodIn wsX7_sow wsX5_cameCount := goodIn_r _ [10, 11, 84, 85, 86, 87, 88, 89, 90, 91, 92, 93, 94] (by decide +kernel) (by decide +kernel)
set_option maxRecDepth 20000 in
theorem gX7_sow_X5_cameCount : GoodIn wsX7_sow (wsV RX7 128 RX5 yX5_cameCount wsX5_cameCount) := goodIn_app (goodIn_of _ (by decide +kernel)) ggX7_sow_X5_cameCount
set_option maxRecDepth 20000 in
theorem ggX7_sow_X7_draw : GoodIn wsX7_sow wsX7_draw := goodIn_r _ [14, 15] (by decide +kernel) (by decide +kernel)
set_option maxRecDepth 20000 in
theorem gX7_sow_X7_draw : GoodIn wsX7_sow (va_wsS RX7 224 yX7_draw wsX7_draw) := goodIn_app (goodIn_of _ (by decide +kernel)) ggX7_sow_X7_draw
set_option maxRecDepth 20000 in
theorem ggX7_sow_X5_build : GoodIn wsX7_sow wsX5_build := goodIn_r _ [19, 20, 21, 22, 23, 9, 24, 11, 25, 26, 27, 28, 29, 30, 31, 32, 33, 34, 35, 36, 37, 38, 39, 40, 41, 42, 43, 44, 45, 46, 47, 48, 49, 50, 51, 52, 53, 54, 55, 56, 57, 58, 59, 60, 61, 62, 63, 64, 65, 66, 67, 68, 69, 70, 71, 72, 73, 74, 75, 76, 77, 78, 79, 80, 81, 82, 83, 84, 85, 86, 87, 88, 89, 90, 91, 92, 93, 94] (by decide +kernel) (by decide +kernel)
set_option maxRecDepth 20000 in
theorem gX7_sow_X5_build : GoodIn wsX7_sow (wsV RX7 124 RX5 yX5_build wsX5_build) := goodIn_app (goodIn_of _ (by decide +kernel)) ggX7_sow_X5_build
theorem dX7_sow_0 : decode cX7_sow 0 = .ok (.iload_n 2, 1) := by decide +kernel
theorem dX7_sow_1 : decode cX7_sow 1 = .ok (.istore_n 3, 1) := by decide +kernel
theorem dX7_sow_2 : decode cX7_sow 2 = .ok (.iconst 0, 1) := by decide +kernel
theorem dX7_sow_3 : decode cX7_sow 3 = .ok (.istore 4, 2) := by decide +kernel
theorem dX7_sow_5 : decode cX7_sow 5 = .ok (.iload 4, 2) := by decide +kernel
theorem dX7_sow_7 : decode cX7_sow 7 = .ok (.iload_n 1, 1) := by decide +kernel
theorem dX7_sow_8 : decode cX7_sow 8 = .ok (.if_icmp .ge 50, 3) := by decide +kernel
theorem dX7_sow_11 : decode cX7_sow 11 = .ok (.iload_n 3, 1) := by decide +kernel
theorem dX7_sow_12 : decode cX7_sow 12 = .ok (.invokestatic 221, 3) := by decide +kernel
theorem dX7_sow_15 : decode cX7_sow 15 = .ok (.istore_n 3, 1) := by decide +kernel
theorem dX7_sow_16 : decode cX7_sow 16 = .ok (.iload_n 3, 1) := by decide +kernel
theorem dX7_sow_17 : decode cX7_sow 17 = .ok (.aload_n 0, 1) := by decide +kernel
theorem dX7_sow_18 : decode cX7_sow 18 = .ok (.invokevirtual 128, 3) := by decide +kernel
theorem dX7_sow_21 : decode cX7_sow 21 = .ok (.invokestatic 224, 3) := by decide +kernel
theorem dX7_sow_24 : decode cX7_sow 24 = .ok (.istore 5, 2) := by decide +kernel
theorem dX7_sow_26 : decode cX7_sow 26 = .ok (.iload_n 3, 1) := by decide +kernel
theorem dX7_sow_27 : decode cX7_sow 27 = .ok (.invokestatic 221, 3) := by decide +kernel
theorem dX7_sow_30 : decode cX7_sow 30 = .ok (.istore_n 3, 1) := by decide +kernel
theorem dX7_sow_31 : decode cX7_sow 31 = .ok (.iload_n 3, 1) := by decide +kernel
theorem dX7_sow_32 : decode cX7_sow 32 = .ok (.aload_n 0, 1) := by decide +kernel
theorem dX7_sow_33 : decode cX7_sow 33 = .ok (.invokevirtual 128, 3) := by decide +kernel
theorem dX7_sow_36 : decode cX7_sow 36 = .ok (.invokestatic 224, 3) := by decide +kernel
theorem dX7_sow_39 : decode cX7_sow 39 = .ok (.istore 6, 2) := by decide +kernel
theorem dX7_sow_41 : decode cX7_sow 41 = .ok (.aload_n 0, 1) := by decide +kernel
theorem dX7_sow_42 : decode cX7_sow 42 = .ok (.iload 5, 2) := by decide +kernel
theorem dX7_sow_44 : decode cX7_sow 44 = .ok (.iload 6, 2) := by decide +kernel
theorem dX7_sow_46 : decode cX7_sow 46 = .ok (.iconst 0, 1) := by decide +kernel
theorem dX7_sow_47 : decode cX7_sow 47 = .ok (.iconst 0, 1) := by decide +kernel
theorem dX7_sow_48 : decode cX7_sow 48 = .ok (.invokevirtual 124, 3) := by decide +kernel
theorem dX7_sow_51 : decode cX7_sow 51 = .ok (.pop, 1) := by decide +kernel
theorem dX7_sow_52 : decode cX7_sow 52 = .ok (.iinc 4 1, 3) := by decide +kernel
theorem dX7_sow_55 : decode cX7_sow 55 = .ok (.goto (-50), 3) := by decide +kernel
theorem dX7_sow_58 : decode cX7_sow 58 = .ok (.return_, 1) := by decide +kernel
theorem dX7_nextSeed_0 : decode cX7_nextSeed 0 = .ok (.iload_n 0, 1) := by decide +kernel
theorem dX7_nextSeed_1 : decode cX7_nextSeed 1 = .ok (.ldc 227, 2) := by decide +kernel
theorem dX7_nextSeed_3 : decode cX7_nextSeed 3 = .ok (.imul, 1) := by decide +kernel
theorem dX7_nextSeed_4 : decode cX7_nextSeed 4 = .ok (.sipush 12345, 3) := by decide +kernel
theorem dX7_nextSeed_7 : decode cX7_nextSeed 7 = .ok (.iadd, 1) := by decide +kernel
theorem dX7_nextSeed_8 : decode cX7_nextSeed 8 = .ok (.ireturn, 1) := by decide +kernel
theorem dX7_draw_0 : decode cX7_draw 0 = .ok (.iload_n 1, 1) := by decide +kernel
theorem dX7_draw_1 : decode cX7_draw 1 = .ok (.iconst 1, 1) := by decide +kernel
theorem dX7_draw_2 : decode cX7_draw 2 = .ok (.if_icmp .ge 7, 3) := by decide +kernel
theorem dX7_draw_5 : decode cX7_draw 5 = .ok (.iconst 0, 1) := by decide +kernel
theorem dX7_draw_6 : decode cX7_draw 6 = .ok (.goto 12, 3) := by decide +kernel
theorem dX7_draw_9 : decode cX7_draw 9 = .ok (.iload_n 0, 1) := by decide +kernel
theorem dX7_draw_10 : decode cX7_draw 10 = .ok (.ldc 228, 2) := by decide +kernel
theorem dX7_draw_12 : decode cX7_draw 12 = .ok (.iand, 1) := by decide +kernel
theorem dX7_draw_13 : decode cX7_draw 13 = .ok (.bipush 16, 2) := by decide +kernel
theorem dX7_draw_15 : decode cX7_draw 15 = .ok (.iushr, 1) := by decide +kernel
theorem dX7_draw_16 : decode cX7_draw 16 = .ok (.iload_n 1, 1) := by decide +kernel
theorem dX7_draw_17 : decode cX7_draw 17 = .ok (.irem, 1) := by decide +kernel
theorem dX7_draw_18 : decode cX7_draw 18 = .ok (.ireturn, 1) := by decide +kernel
set_option maxRecDepth 20000 in
theorem ggL_law_X7_init : GoodIn wsL_law wsX7_init := goodIn_r _ [8, 9, 10, 11, 12, 13, 14, 15, 16, 17, 18, 19, 20, 21, 22, 23, 24, 25, 26, 27, 28, 29, 30, 31, 32, 33, 34, 35, 36, 37, 38, 39, 40, 41, 42, 43, 44, 45, 46, 47, 48, 49, 50, 51, 52, 53, 54, 55, 56, 57, 58, 59, 60, 61, 62, 63, 64, 65, 66, 67, 68, 69, 70, 71, 72, 73, 74, 75, 76, 77, 78, 79, 80, 81, 82, 83, 84, 85, 86, 87, 88, 89, 90, 91, 92, 93, 94, 95, 96, 97, 983, 984, 985, 986, 987, 988, 989, 990, 991, 992, 993, 940, 941, 942, 943, 944, 945, 946, 947, 948, 949, 994, 995, 996, 997, 998, 999, 1000, 1001, 1002, 1003, 1004, 1005] (by decide +kernel) (by decide +kernel)
set_option maxRecDepth 20000 in
theorem gL_law_X7_init : GoodIn wsL_law (wsX7_init) := ggL_law_X7_init
set_option maxRecDepth 20000 in
theorem ggL_law_X8_init : GoodIn wsL_law wsX8_init := goodIn_r _ [100, 101, 10, 11, 38, 102, 103, 104, 105, 106, 107, 108, 109, 110, 111, 112, 113, 114, 115, 116, 117, 118, 119, 120, 121, 122, 123, 5, 124, 125, 126, 127, 128, 129, 950, 951, 952, 953, 954, 955, 956, 957, 958, 959, 960, 961, 962, 963, 964, 965, 966, 967, 968, 969, 970, 971, 972, 973, 974, 975, 976, 977, 978, 979, 980, 981, 982] (by decide +kernel) (by decide +kernel)
set_option maxRecDepth 20000 in
theorem gL_law_X8_init : GoodIn wsL_law (wsX8_init) := ggL_law_X8_init
set_option maxRecDepth 20000 in
theorem ggL_law_X7_feed : GoodIn wsL_law wsX7_feed := goodIn_r _ [133, 21, 134, 135, 136, 2, 137, 39, 138, 139, 140, 141, 72, 142, 143, 79, 144, 145, 146, 147, 148, 149, 150, 151, 152, 940, 941, 942, 943, 944, 945, 946, 947, 948, 949, 994, 995, 996, 997, 998, 999, 1000, 1001, 1002] (by decide +kernel) (by decide +kernel)
set_option maxRecDepth 20000 in
theorem gL_law_X7_feed : GoodIn wsL_law (wsV RL 13 RX7 yX7_feed wsX7_feed) := goodIn_app (goodIn_of _ (by decide +kernel)) ggL_law_X7_feed
set_option maxRecDepth 20000 in
theorem ggL_law_X8_feed : GoodIn wsL_law wsX8_feed := goodIn_r _ [156, 157, 111, 158, 159, 5, 160, 161, 162, 163, 164, 102, 950, 951, 952, 953, 954, 955, 956, 957, 958, 959, 960, 961, 962, 963, 964, 965, 966, 967, 968, 969, 970, 971, 972, 973, 974, 975, 976, 977, 978, 979, 980, 981, 982] (by decide +kernel) (by decide +kernel)
set_option maxRecDepth 20000 in
theorem gL_law_X8_feed : GoodIn wsL_law (wsV RL 17 RX8 yX8_feed wsX8_feed) := goodIn_app (goodIn_of _ (by decide +kernel)) ggL_law_X8_feed
set_option maxRecDepth 20000 in
theorem ggL_law_X7_street : GoodIn wsL_law wsX7_street := goodIn_r _ [168, 17, 15, 21, 169, 170, 171, 14, 172, 45, 173, 174, 175, 176, 46, 47, 48, 49, 50, 51, 56, 57, 177, 178, 179, 180, 181, 20, 182, 183, 184, 185, 186, 187, 188, 72, 189, 143, 190, 191, 192, 193, 194, 195, 196, 197, 198, 199, 200, 79, 201, 202, 203, 204, 205, 206, 207, 208, 209, 210, 211, 212, 213, 214, 215, 216, 217, 218, 219, 220, 221, 222, 223, 224, 225, 226, 227, 228, 229, 230, 231, 232, 233, 234, 235, 236, 237, 238, 239, 240, 241, 242, 243, 244, 245, 246, 247, 248, 249, 250, 251, 252, 253, 254, 255, 256, 257, 258, 259, 260, 261, 262, 263, 264, 69, 265, 266, 267, 268, 269, 270, 271, 272, 273, 274, 275, 276, 277, 278, 279, 62, 63, 64, 65, 280, 281, 282, 283, 284, 285, 286, 287, 288, 289, 290, 291, 292, 293, 294, 295, 296, 297, 298, 299, 300, 301, 302, 303, 304, 305, 306, 307, 308, 309, 310, 311, 312, 313, 314, 58, 59, 60, 61, 315, 316, 317, 318, 319, 320, 321, 322, 323, 324, 325, 326, 327, 328, 329, 330, 331, 332, 333, 334, 335, 336, 337, 338, 339, 340, 341, 342, 343, 344, 345, 53, 54, 55, 346, 347, 348, 349, 350, 351, 352, 353, 354, 940, 941, 942, 943, 944, 945, 946, 947, 948, 949, 983, 984, 985, 986, 987, 988, 989, 990, 991, 992, 993, 994, 995, 996, 997, 998, 999, 1000, 1001, 1002] (by decide +kernel) (by decide +kernel)
set_option maxRecDepth 20000 in
theorem gL_law_X7_street : GoodIn wsL_law (wsV RL 18 RX7 yX7_street wsX7_street) := goodIn_app (goodIn_of _ (by decide +kernel)) ggL_law_X7_street
set_option maxRecDepth 20000 in
theorem ggL_law_X8_street : GoodIn wsL_law wsX8_street := goodIn_r _ [358, 359, 360, 157, 113, 361, 362, 363, 5, 364, 112, 365, 366, 367, 368, 369, 111, 370, 371, 372, 373, 374, 375, 376, 377, 114, 378, 379, 380, 381, 382, 383, 384, 385, 386, 387, 388, 389, 390, 103, 104, 105, 106, 107, 108, 109, 110, 125, 391, 392, 393, 394, 395, 396, 115, 397, 398, 399, 400, 401, 402, 403, 404, 405, 406, 407, 408, 409, 410, 411, 412, 413, 414, 415, 416, 417, 418, 419, 420, 421, 422, 423, 424, 425, 426, 427, 428, 429, 430, 431, 432, 433, 434, 435, 436, 437, 438, 439, 440, 441, 442, 443, 444, 445, 446, 447, 448, 126, 127, 128, 129, 449, 450, 451, 452, 453, 454, 455, 456, 457, 458, 459, 460, 461, 462, 463, 464, 465, 466, 467, 468, 121, 122, 123, 124, 950, 951, 952, 953, 954, 955, 956, 957, 958, 959, 960, 961, 962, 963, 964, 965, 966, 967, 968, 969, 970, 971, 972, 973, 974, 975, 976, 977, 978, 979, 980, 981, 982] (by decide +kernel) (by decide +kernel)
set_option maxRecDepth 20000 in
theorem gL_law_X8_street : GoodIn wsL_law (wsV RL 22 RX8 yX8_street wsX8_street) := goodIn_app (goodIn_of _ (by decide +kernel)) ggL_law_X8_street
set_option maxRecDepth 20000 in
theorem ggL_law_X7_house : GoodIn wsL_law wsX7_house := goodIn_r _ [472, 15, 473, 292, 293, 14, 294, 56, 134, 135, 136, 2, 137, 39, 474, 475, 476, 477, 45, 46, 47, 48, 49, 57, 50, 51, 291, 295, 296, 297, 940, 941, 942, 943, 944, 945, 946, 947, 948, 949, 983, 984, 985, 986, 987, 988, 989, 990, 991, 992, 993] (by decide +kernel) (by decide +kernel)
set_option maxRecDepth 20000 in
theorem gL_law_X7_house : GoodIn wsL_law (wsV RL 23 RX7 yX7_house wsX7_house) := goodIn_app (goodIn_of _ (by decide +kernel)) ggL_law_X7_house
set_option maxRecDepth 20000 in
theorem ggL_law_X8_house : GoodIn wsL_law wsX8_house := goodIn_r _ [481, 104, 105, 103, 106, 107, 108, 109, 110, 413, 414, 415, 5, 416, 125, 378, 379, 380, 161, 162, 163, 164, 102, 950, 951, 952, 953, 954, 955, 956, 957, 958, 959, 960, 961, 962, 963, 964, 965, 966, 967, 968, 969, 970, 971, 972, 973, 974, 975, 976, 977, 978, 979, 980, 981, 982] (by decide +kernel) (by decide +kernel)
set_option maxRecDepth 20000 in
theorem gL_law_X8_house : GoodIn wsL_law (wsV RL 27 RX8 yX8_house wsX8_house) := goodIn_app (goodIn_of _ (by decide +kernel)) ggL_law_X8_house
set_option maxRecDepth 20000 in
theorem ggL_law_X7_law : GoodIn wsL_law wsX7_law := goodIn_r _ [485, 15, 134, 135, 136, 2, 137, 39, 486, 487, 488, 14, 489, 177, 490, 491, 492, 493, 178, 494, 342, 343, 344, 940, 941, 942, 943, 944, 945, 946, 947, 948, 949, 983, 984, 985, 986, 987, 988, 989, 990, 991, 992, 993] (by decide +kernel) (by decide +kernel)
set_option maxRecDepth 20000 in
theorem gL_law_X7_law : GoodIn wsL_law (wsV RL 28 RX7 yX7_law wsX7_law) := goodIn_app (goodIn_of _ (by decide +kernel)) ggL_law_X7_law
set_option maxRecDepth 20000 in
theorem ggL_law_X8_law : GoodIn wsL_law wsX8_law := goodIn_r _ [498, 391, 392, 378, 379, 5, 380, 161, 162, 163, 164, 102, 950, 951, 952, 953, 954, 955, 956, 957, 958, 959, 960, 961, 962, 963, 964, 965, 966, 967, 968, 969, 970, 971, 972, 973, 974, 975, 976, 977, 978, 979, 980, 981, 982] (by decide +kernel) (by decide +kernel)
set_option maxRecDepth 20000 in
theorem gL_law_X8_law : GoodIn wsL_law (wsV RL 31 RX8 yX8_law wsX8_law) := goodIn_app (goodIn_of _ (by decide +kernel)) ggL_law_X8_law
set_option maxRecDepth 20000 in
theorem ggL_law_X7_may : GoodIn wsL_law wsX7_may := goodIn_r _ [502, 15, 473, 292, 293, 14, 294, 56, 134, 135, 136, 2, 137, 39, 503, 288, 289, 290, 57, 291, 295, 296, 297, 504, 284, 285, 286, 47, 287, 298, 299, 300, 301, 177, 302, 303, 304, 305, 306, 307, 308, 309, 310, 45, 50, 311, 312, 313, 314, 940, 941, 942, 943, 944, 945, 946, 947, 948, 949, 983, 984, 985, 986, 987, 988, 989, 990, 991, 992, 993] (by decide +kernel) (by decide +kernel)
set_option maxRecDepth 20000 in
theorem gL_law_X7_may : GoodIn wsL_law (wsV RL 32 RX7 yX7_may wsX7_may) := goodIn_app (goodIn_of _ (by decide +kernel)) ggL_law_X7_may
set_option maxRecDepth 20000 in
theorem ggL_law_X8_may : GoodIn wsL_law wsX8_may := goodIn_r _ [508, 413, 414, 415, 5, 416, 125, 378, 379, 380, 409, 410, 411, 412, 108, 161, 162, 163, 164, 102, 417, 418, 419, 420, 103, 421, 422, 423, 424, 104, 109, 425, 426, 427, 428, 429, 430, 431, 432, 391, 433, 434, 435, 436, 950, 951, 952, 953, 954, 955, 956, 957, 958, 959, 960, 961, 962, 963, 964, 965, 966, 967, 968, 969, 970, 971, 972, 973, 974, 975, 976, 977, 978, 979, 980, 981, 982] (by decide +kernel) (by decide +kernel)
set_option maxRecDepth 20000 in
theorem gL_law_X8_may : GoodIn wsL_law (wsV RL 35 RX8 yX8_may wsX8_may) := goodIn_app (goodIn_of _ (by decide +kernel)) ggL_law_X8_may
set_option maxRecDepth 20000 in
theorem ggL_law_X7_cost : GoodIn wsL_law wsX7_cost := goodIn_r _ [512, 15, 473, 292, 293, 14, 294, 56, 134, 135, 136, 2, 137, 39, 504, 284, 285, 286, 47, 287, 288, 289, 290, 57, 291, 295, 296, 297, 298, 299, 300, 301, 177, 302, 303, 304, 305, 306, 307, 308, 309, 310, 45, 50, 311, 312, 313, 314, 513, 320, 321, 322, 46, 940, 941, 942, 943, 944, 945, 946, 947, 948, 949, 983, 984, 985, 986, 987, 988, 989, 990, 991, 992, 993] (by decide +kernel) (by decide +kernel)
set_option maxRecDepth 20000 in
theorem gL_law_X7_cost : GoodIn wsL_law (wsV RL 36 RX7 yX7_cost wsX7_cost) := goodIn_app (goodIn_of _ (by decide +kernel)) ggL_law_X7_cost
set_option maxRecDepth 20000 in
theorem ggL_law_X8_cost : GoodIn wsL_law wsX8_cost := goodIn_r _ [517, 413, 414, 415, 5, 416, 125, 378, 379, 380, 518, 519, 520, 521, 409, 410, 411, 412, 108, 417, 418, 419, 420, 103, 421, 422, 423, 424, 104, 109, 425, 426, 427, 428, 429, 430, 431, 432, 391, 433, 434, 435, 436, 161, 162, 163, 164, 102, 445, 446, 447, 448, 105, 950, 951, 952, 953, 954, 955, 956, 957, 958, 959, 960, 961, 962, 963, 964, 965, 966, 967, 968, 969, 970, 971, 972, 973, 974, 975, 976, 977, 978, 979, 980, 981, 982] (by decide +kernel) (by decide +kernel)
set_option maxRecDepth 20000 in
theorem gL_law_X8_cost : GoodIn wsL_law (wsV RL 39 RX8 yX8_cost wsX8_cost) := goodIn_app (goodIn_of _ (by decide +kernel)) ggL_law_X8_cost
set_option maxRecDepth 20000 in
theorem ggL_law_X7_add : GoodIn wsL_law wsX7_add := goodIn_r _ [525, 15, 473, 292, 293, 14, 294, 56, 134, 135, 136, 2, 137, 39, 526, 281, 282, 504, 284, 285, 286, 47, 287, 288, 289, 290, 57, 291, 295, 296, 297, 298, 299, 300, 301, 177, 302, 303, 304, 305, 306, 307, 308, 309, 310, 45, 50, 311, 312, 313, 314, 527, 277, 278, 279, 62, 63, 64, 65, 280, 283, 58, 59, 60, 61, 48, 49, 46, 51, 315, 316, 317, 318, 319, 320, 321, 322, 323, 324, 325, 326, 528, 529, 530, 531, 940, 941, 942, 943, 944, 945, 946, 947, 948, 949, 983, 984, 985, 986, 987, 988, 989, 990, 991, 992, 993] (by decide +kernel) (by decide +kernel)
set_option maxRecDepth 20000 in
theorem gL_law_X7_add : GoodIn wsL_law (wsV RL 40 RX7 yX7_add wsX7_add) := goodIn_app (goodIn_of _ (by decide +kernel)) ggL_law_X7_add
set_option maxRecDepth 20000 in
theorem ggL_law_X8_add : GoodIn wsL_law wsX8_add := goodIn_r _ [535, 125, 413, 414, 415, 5, 416, 378, 379, 380, 158, 159, 160, 518, 519, 520, 521, 409, 410, 411, 412, 108, 417, 418, 419, 420, 103, 421, 422, 423, 424, 104, 109, 425, 426, 427, 428, 429, 430, 431, 432, 391, 433, 434, 435, 436, 161, 162, 163, 164, 102, 437, 438, 439, 440, 441, 442, 443, 444, 110, 445, 446, 447, 448, 105, 126, 127, 128, 129, 106, 107, 950, 951, 952, 953, 954, 955, 956, 957, 958, 959, 960, 961, 962, 963, 964, 965, 966, 967, 968, 969, 970, 971, 972, 973, 974, 975, 976, 977, 978, 979, 980, 981, 982] (by decide +kernel) (by decide +kernel)
set_option maxRecDepth 20000 in
theorem gL_law_X8_add : GoodIn wsL_law (wsV RL 44 RX8 yX8_add wsX8_add) := goodIn_app (goodIn_of _ (by decide +kernel)) ggL_law_X8_add
set_option maxRecDepth 20000 in
theorem ggL_law_X7_burn : GoodIn wsL_law wsX7_burn := goodIn_r _ [539, 15, 473, 292, 293, 14, 294, 56, 134, 135, 136, 2, 137, 39, 503, 288, 289, 290, 57, 291, 295, 296, 297, 540, 328, 329, 330, 331, 332, 333, 334, 178, 45, 48, 49, 287, 335, 336, 304, 337, 338, 339, 340, 940, 941, 942, 943, 944, 945, 946, 947, 948, 949, 983, 984, 985, 986, 987, 988, 989, 990, 991, 992, 993] (by decide +kernel) (by decide +kernel)
set_option maxRecDepth 20000 in
theorem gL_law_X7_burn : GoodIn wsL_law (wsV RL 45 RX7 yX7_burn wsX7_burn) := goodIn_app (goodIn_of _ (by decide +kernel)) ggL_law_X7_burn
set_option maxRecDepth 20000 in
theorem ggL_law_X8_burn : GoodIn wsL_law wsX8_burn := goodIn_r _ [544, 413, 414, 415, 5, 416, 125, 378, 379, 380, 409, 410, 411, 412, 108, 161, 162, 163, 164, 102, 545, 546, 547, 548, 549, 550, 551, 453, 454, 455, 456, 457, 458, 459, 460, 392, 104, 106, 107, 461, 462, 463, 464, 950, 951, 952, 953, 954, 955, 956, 957, 958, 959, 960, 961, 962, 963, 964, 965, 966, 967, 968, 969, 970, 971, 972, 973, 974, 975, 976, 977, 978, 979, 980, 981, 982] (by decide +kernel) (by decide +kernel)
set_option maxRecDepth 20000 in
theorem gL_law_X8_burn : GoodIn wsL_law (wsV RL 48 RX8 yX8_burn wsX8_burn) := goodIn_app (goodIn_of _ (by decide +kernel)) ggL_law_X8_burn
set_option maxRecDepth 20000 in
theorem ggL_law_X7_hangs : GoodIn wsL_law wsX7_hangs := goodIn_r _ [555, 15, 473, 292, 293, 14, 294, 56, 134, 135, 136, 2, 137, 39, 503, 288, 289, 290, 57, 291, 295, 296, 297, 556, 332, 333, 334, 178, 45, 48, 49, 287, 940, 941, 942, 943, 944, 945, 946, 947, 948, 949, 983, 984, 985, 986, 987, 988, 989, 990, 991, 992, 993] (by decide +kernel) (by decide +kernel)
set_option maxRecDepth 20000 in
theorem gL_law_X7_hangs : GoodIn wsL_law (wsV RL 49 RX7 yX7_hangs wsX7_hangs) := goodIn_app (goodIn_of _ (by decide +kernel)) ggL_law_X7_hangs
set_option maxRecDepth 20000 in
theorem ggL_law_X8_hangs : GoodIn wsL_law wsX8_hangs := goodIn_r _ [560, 413, 414, 415, 5, 416, 125, 378, 379, 380, 409, 410, 411, 412, 108, 161, 162, 163, 164, 102, 561, 562, 563, 564, 545, 546, 547, 548, 385, 386, 387, 388, 389, 390, 103, 104, 105, 106, 107, 109, 110, 391, 392, 393, 394, 395, 396, 115, 397, 398, 399, 400, 453, 454, 455, 456, 457, 458, 459, 460, 461, 462, 463, 464, 950, 951, 952, 953, 954, 955, 956, 957, 958, 959, 960, 961, 962, 963, 964, 965, 966, 967, 968, 969, 970, 971, 972, 973, 974, 975, 976, 977, 978, 979, 980, 981, 982] (by decide +kernel) (by decide +kernel)
set_option maxRecDepth 20000 in
theorem gL_law_X8_hangs : GoodIn wsL_law (wsV RL 52 RX8 yX8_hangs wsX8_hangs) := goodIn_app (goodIn_of _ (by decide +kernel)) ggL_law_X8_hangs
set_option maxRecDepth 20000 in
theorem ggL_law_X7_save : GoodIn wsL_law wsX7_save := goodIn_r _ [568, 15, 528, 529, 530, 14, 531, 56, 503, 288, 289, 290, 57, 291, 292, 293, 294, 295, 296, 297, 556, 332, 333, 334, 178, 45, 48, 49, 287, 569, 336, 304, 337, 338, 339, 340, 940, 941, 942, 943, 944, 945, 946, 947, 948, 949, 983, 984, 985, 986, 987, 988, 989, 990, 991, 992, 993] (by decide +kernel) (by decide +kernel)
set_option maxRecDepth 20000 in
theorem gL_law_X7_save : GoodIn wsL_law (wsV RL 53 RX7 yX7_save wsX7_save) := goodIn_app (goodIn_of _ (by decide +kernel)) ggL_law_X7_save
set_option maxRecDepth 20000 in
theorem ggL_law_X8_save : GoodIn wsL_law wsX8_save := goodIn_r _ [573, 125, 108, 561, 562, 563, 5, 564, 545, 546, 547, 548, 385, 386, 387, 388, 389, 390, 103, 104, 105, 106, 107, 109, 110, 391, 392, 393, 394, 395, 396, 115, 397, 398, 399, 400, 453, 454, 455, 456, 457, 458, 459, 460, 461, 462, 463, 464, 549, 550, 551, 950, 951, 952, 953, 954, 955, 956, 957, 958, 959, 960, 961, 962, 963, 964, 965, 966, 967, 968, 969, 970, 971, 972, 973, 974, 975, 976, 977, 978, 979, 980, 981, 982] (by decide +kernel) (by decide +kernel)
set_option maxRecDepth 20000 in
theorem gL_law_X8_save : GoodIn wsL_law (wsV RL 56 RX8 yX8_save wsX8_save) := goodIn_app (goodIn_of _ (by decide +kernel)) ggL_law_X8_save
set_option maxRecDepth 20000 in
theorem ggL_law_X7_fewest : GoodIn wsL_law wsX7_fewest := goodIn_r _ [577, 29, 578, 579, 2, 580, 134, 135, 136, 137, 39, 581, 582, 583, 28, 584, 88, 585, 586, 587, 588, 589, 77, 590, 591, 592, 593, 594, 76, 78, 595, 596, 597, 940, 941, 942, 943, 944, 945, 946, 947, 948, 949, 1003] (by decide +kernel) (by decide +kernel)
set_option maxRecDepth 20000 in
theorem gL_law_X7_fewest : GoodIn wsL_law (wsV RL 57 RX7 yX7_fewest wsX7_fewest) := goodIn_app (goodIn_of _ (by decide +kernel)) ggL_law_X7_fewest
set_option maxRecDepth 20000 in
theorem ggL_law_X8_fewest : GoodIn wsL_law wsX8_fewest := goodIn_r _ [601, 158, 159, 5, 160, 161, 162, 163, 164, 102, 602, 603, 604, 605, 606, 607, 608, 609, 610, 611, 116, 612, 613, 614, 615, 616, 617, 618, 619, 620, 621, 622, 623, 624, 625, 626, 627, 950, 951, 952, 953, 954, 955, 956, 957, 958, 959, 960, 961, 962, 963, 964, 965, 966, 967, 968, 969, 970, 971, 972, 973, 974, 975, 976, 977, 978, 979, 980, 981, 982] (by decide +kernel) (by decide +kernel)
set_option maxRecDepth 20000 in
theorem gL_law_X8_fewest : GoodIn wsL_law (wsV RL 60 RX8 yX8_fewest wsX8_fewest) := goodIn_app (goodIn_of _ (by decide +kernel)) ggL_law_X8_fewest
set_option maxRecDepth 20000 in
theorem ggL_law_X7_chain : GoodIn wsL_law wsX7_chain := goodIn_r _ [631, 29, 134, 135, 136, 2, 137, 39, 578, 579, 580, 581, 582, 583, 28, 584, 88, 585, 586, 587, 588, 589, 77, 590, 591, 592, 593, 594, 76, 78, 595, 596, 597, 632, 633, 634, 635, 940, 941, 942, 943, 944, 945, 946, 947, 948, 949, 1003] (by decide +kernel) (by decide +kernel)
set_option maxRecDepth 20000 in
theorem gL_law_X7_chain : GoodIn wsL_law (wsV RL 61 RX7 yX7_chain wsX7_chain) := goodIn_app (goodIn_of _ (by decide +kernel)) ggL_law_X7_chain
set_option maxRecDepth 20000 in
theorem ggL_law_X8_chain : GoodIn wsL_law wsX8_chain := goodIn_r _ [639, 116, 161, 162, 163, 5, 164, 102, 602, 603, 604, 605, 606, 607, 608, 609, 610, 611, 612, 613, 614, 615, 616, 617, 618, 619, 620, 621, 622, 623, 624, 625, 626, 627, 950, 951, 952, 953, 954, 955, 956, 957, 958, 959, 960, 961, 962, 963, 964, 965, 966, 967, 968, 969, 970, 971, 972, 973, 974, 975, 976, 977, 978, 979, 980, 981, 982] (by decide +kernel) (by decide +kernel)
set_option maxRecDepth 20000 in
theorem gL_law_X8_chain : GoodIn wsL_law (wsV RL 64 RX8 yX8_chain wsX8_chain) := goodIn_app (goodIn_of _ (by decide +kernel)) ggL_law_X8_chain
set_option maxRecDepth 20000 in
theorem ggL_law_X7_way : GoodIn wsL_law wsX7_way := goodIn_r _ [643, 644, 645, 2, 646, 578, 579, 580, 134, 135, 136, 137, 39, 647, 648, 28, 649, 650, 303, 304, 305, 306, 651, 336, 337, 338, 339, 340, 652, 653, 654, 655, 656, 657, 658, 659, 660, 940, 941, 942, 943, 944, 945, 946, 947, 948, 949] (by decide +kernel) (by decide +kernel)
set_option maxRecDepth 20000 in
theorem gL_law_X7_way : GoodIn wsL_law (wsV RL 65 RX7 yX7_way wsX7_way) := goodIn_app (goodIn_of _ (by decide +kernel)) ggL_law_X7_way
set_option maxRecDepth 20000 in
theorem ggL_law_X8_way : GoodIn wsL_law wsX8_way := goodIn_r _ [664, 378, 379, 5, 380, 158, 159, 160, 161, 162, 163, 164, 102, 665, 666, 667, 668, 669, 670, 671, 117, 672, 673, 674, 950, 951, 952, 953, 954, 955, 956, 957, 958, 959, 960, 961, 962, 963, 964, 965, 966, 967, 968, 969, 970, 971, 972, 973, 974, 975, 976, 977, 978, 979, 980, 981, 982] (by decide +kernel) (by decide +kernel)
set_option maxRecDepth 20000 in
theorem gL_law_X8_way : GoodIn wsL_law (wsV RL 68 RX8 yX8_way wsX8_way) := goodIn_app (goodIn_of _ (by decide +kernel)) ggL_law_X8_way
set_option maxRecDepth 20000 in
theorem ggL_law_X7_both : GoodIn wsL_law wsX7_both := goodIn_r _ [678, 679, 589, 77, 590, 680, 76, 78, 29, 578, 579, 2, 580, 134, 135, 136, 137, 39, 581, 582, 583, 28, 584, 88, 585, 586, 587, 588, 591, 592, 593, 594, 595, 596, 597, 940, 941, 942, 943, 944, 945, 946, 947, 948, 949, 1003] (by decide +kernel) (by decide +kernel)
set_option maxRecDepth 20000 in
theorem gL_law_X7_both : GoodIn wsL_law (wsV RL 69 RX7 yX7_both wsX7_both) := goodIn_app (goodIn_of _ (by decide +kernel)) ggL_law_X7_both
set_option maxRecDepth 20000 in
theorem ggL_law_X8_both : GoodIn wsL_law wsX8_both := goodIn_r _ [684, 161, 162, 163, 5, 164, 102, 602, 603, 604, 605, 606, 607, 608, 609, 610, 611, 116, 612, 613, 614, 615, 616, 617, 618, 619, 620, 621, 622, 623, 624, 625, 626, 627, 950, 951, 952, 953, 954, 955, 956, 957, 958, 959, 960, 961, 962, 963, 964, 965, 966, 967, 968, 969, 970, 971, 972, 973, 974, 975, 976, 977, 978, 979, 980, 981, 982] (by decide +kernel) (by decide +kernel)
set_option maxRecDepth 20000 in
theorem gL_law_X8_both : GoodIn wsL_law (wsV RL 72 RX8 yX8_both wsX8_both) := goodIn_app (goodIn_of _ (by decide +kernel)) ggL_law_X8_both
set_option maxRecDepth 20000 in
theorem ggL_law_X7_far : GoodIn wsL_law wsX7_far := goodIn_r _ [688, 578, 579, 2, 580, 134, 135, 136, 137, 39, 940, 941, 942, 943, 944, 945, 946, 947, 948, 949] (by decide +kernel) (by decide +kernel)
set_option maxRecDepth 20000 in
theorem gL_law_X7_far : GoodIn wsL_law (wsV RL 73 RX7 yX7_far wsX7_far) := goodIn_app (goodIn_of _ (by decide +kernel)) ggL_law_X7_far
set_option maxRecDepth 20000 in
theorem ggL_law_X8_far : GoodIn wsL_law wsX8_far := goodIn_r _ [692, 158, 159, 5, 160, 161, 162, 163, 164, 102, 950, 951, 952, 953, 954, 955, 956, 957, 958, 959, 960, 961, 962, 963, 964, 965, 966, 967, 968, 969, 970, 971, 972, 973, 974, 975, 976, 977, 978, 979, 980, 981, 982] (by decide +kernel) (by decide +kernel)
set_option maxRecDepth 20000 in
theorem gL_law_X8_far : GoodIn wsL_law (wsV RL 76 RX8 yX8_far wsX8_far) := goodIn_app (goodIn_of _ (by decide +kernel)) ggL_law_X8_far
set_option maxRecDepth 20000 in
theorem ggL_law_X7_can : GoodIn wsL_law wsX7_can := goodIn_r _ [696, 29, 697, 644, 645, 2, 646, 578, 579, 580, 134, 135, 136, 137, 39, 698, 699, 700, 28, 701, 88, 588, 589, 77, 590, 702, 703, 704, 595, 596, 597, 705, 706, 707, 708, 709, 710, 711, 712, 713, 714, 715, 716, 304, 717, 306, 940, 941, 942, 943, 944, 945, 946, 947, 948, 949, 1003] (by decide +kernel) (by decide +kernel)
set_option maxRecDepth 20000 in
theorem gL_law_X7_can : GoodIn wsL_law (wsV RL 77 RX7 yX7_can wsX7_can) := goodIn_app (goodIn_of _ (by decide +kernel)) ggL_law_X7_can
set_option maxRecDepth 20000 in
theorem ggL_law_X8_can : GoodIn wsL_law wsX8_can := goodIn_r _ [721, 378, 379, 5, 380, 158, 159, 160, 161, 162, 163, 164, 102, 722, 723, 724, 725, 606, 607, 608, 609, 610, 611, 116, 612, 613, 614, 615, 616, 617, 618, 619, 620, 621, 622, 623, 624, 625, 626, 627, 950, 951, 952, 953, 954, 955, 956, 957, 958, 959, 960, 961, 962, 963, 964, 965, 966, 967, 968, 969, 970, 971, 972, 973, 974, 975, 976, 977, 978, 979, 980, 981, 982] (by decide +kernel) (by decide +kernel)
set_option maxRecDepth 20000 in
theorem gL_law_X8_can : GoodIn wsL_law (wsV RL 80 RX8 yX8_can wsX8_can) := goodIn_app (goodIn_of _ (by decide +kernel)) ggL_law_X8_can
set_option maxRecDepth 20000 in
theorem ggL_law_X7_more : GoodIn wsL_law wsX7_more := goodIn_r _ [729, 15, 578, 579, 2, 580, 134, 135, 136, 137, 39, 730, 312, 313, 14, 314, 56, 57, 47, 295, 296, 297, 731, 732, 733, 734, 62, 63, 64, 65, 283, 284, 285, 286, 287, 288, 289, 290, 291, 292, 293, 294, 298, 299, 300, 301, 177, 302, 303, 304, 305, 306, 307, 308, 309, 310, 45, 50, 311, 735, 736, 737, 738, 17, 528, 529, 530, 531, 169, 170, 171, 172, 173, 174, 175, 176, 46, 48, 49, 51, 178, 527, 277, 278, 279, 280, 281, 282, 58, 59, 60, 61, 315, 316, 317, 318, 319, 320, 321, 322, 323, 324, 325, 326, 940, 941, 942, 943, 944, 945, 946, 947, 948, 949, 983, 984, 985, 986, 987, 988, 989, 990, 991, 992, 993] (by decide +kernel) (by decide +kernel)
set_option maxRecDepth 20000 in
theorem gL_law_X7_more : GoodIn wsL_law (wsV RL 81 RX7 yX7_more wsX7_more) := goodIn_app (goodIn_of _ (by decide +kernel)) ggL_law_X7_more
set_option maxRecDepth 20000 in
theorem ggL_law_X8_more : GoodIn wsL_law wsX8_more := goodIn_r _ [742, 158, 159, 5, 160, 161, 162, 163, 164, 102, 425, 426, 427, 428, 125, 108, 103, 743, 744, 745, 746, 518, 519, 520, 521, 409, 410, 411, 412, 413, 414, 415, 416, 378, 379, 380, 417, 418, 419, 420, 421, 422, 423, 424, 104, 109, 429, 430, 431, 432, 391, 433, 434, 435, 436, 747, 748, 749, 750, 385, 386, 387, 388, 389, 390, 105, 106, 107, 110, 392, 393, 394, 395, 396, 115, 397, 398, 399, 400, 437, 438, 439, 440, 441, 442, 443, 444, 445, 446, 447, 448, 126, 127, 128, 129, 950, 951, 952, 953, 954, 955, 956, 957, 958, 959, 960, 961, 962, 963, 964, 965, 966, 967, 968, 969, 970, 971, 972, 973, 974, 975, 976, 977, 978, 979, 980, 981, 982] (by decide +kernel) (by decide +kernel)
set_option maxRecDepth 20000 in
theorem gL_law_X8_more : GoodIn wsL_law (wsV RL 84 RX8 yX8_more wsX8_more) := goodIn_app (goodIn_of _ (by decide +kernel)) ggL_law_X8_more
set_option maxRecDepth 20000 in
theorem ggL_law_X7_orders : GoodIn wsL_law wsX7_orders := goodIn_r _ [754, 33, 15, 755, 756, 757, 32, 758, 92, 759, 760, 761, 14, 762, 57, 763, 764, 765, 766, 767, 768, 769, 770, 48, 49, 291, 292, 293, 294, 56, 771, 772, 773, 774, 287, 288, 289, 290, 295, 296, 297, 940, 941, 942, 943, 944, 945, 946, 947, 948, 949, 1004, 983, 984, 985, 986, 987, 988, 989, 990, 991, 992, 993] (by decide +kernel) (by decide +kernel)
set_option maxRecDepth 20000 in
theorem gL_law_X7_orders : GoodIn wsL_law (wsV RL 85 RX7 yX7_orders wsX7_orders) := goodIn_app (goodIn_of _ (by decide +kernel)) ggL_law_X7_orders
set_option maxRecDepth 20000 in
theorem ggL_law_X8_orders : GoodIn wsL_law wsX8_orders := goodIn_r _ [778, 118, 125, 545, 546, 547, 5, 548, 108, 779, 780, 781, 782, 783, 784, 785, 106, 107, 950, 951, 952, 953, 954, 955, 956, 957, 958, 959, 960, 961, 962, 963, 964, 965, 966, 967, 968, 969, 970, 971, 972, 973, 974, 975, 976, 977, 978, 979, 980, 981, 982] (by decide +kernel) (by decide +kernel)
set_option maxRecDepth 20000 in
theorem gL_law_X8_orders : GoodIn wsL_law (wsV RL 88 RX8 yX8_orders wsX8_orders) := goodIn_app (goodIn_of _ (by decide +kernel)) ggL_law_X8_orders
set_option maxRecDepth 20000 in
theorem ggL_law_X7_game : GoodIn wsL_law wsX7_game := goodIn_r _ [789, 37, 578, 579, 2, 580, 134, 135, 136, 137, 39, 790, 791, 792, 36, 793, 97, 794, 795, 796, 797, 798, 799, 800, 940, 941, 942, 943, 944, 945, 946, 947, 948, 949, 1005] (by decide +kernel) (by decide +kernel)
set_option maxRecDepth 20000 in
theorem gL_law_X7_game : GoodIn wsL_law (wsV RL 89 RX7 yX7_game wsX7_game) := goodIn_app (goodIn_of _ (by decide +kernel)) ggL_law_X7_game
set_option maxRecDepth 20000 in
theorem ggL_law_X8_game : GoodIn wsL_law wsX8_game := goodIn_r _ [804, 119, 158, 159, 5, 160, 161, 162, 163, 164, 102, 779, 780, 781, 805, 806, 807, 808, 809, 810, 811, 812, 950, 951, 952, 953, 954, 955, 956, 957, 958, 959, 960, 961, 962, 963, 964, 965, 966, 967, 968, 969, 970, 971, 972, 973, 974, 975, 976, 977, 978, 979, 980, 981, 982] (by decide +kernel) (by decide +kernel)
set_option maxRecDepth 20000 in
theorem gL_law_X8_game : GoodIn wsL_law (wsV RL 92 RX8 yX8_game wsX8_game) := goodIn_app (goodIn_of _ (by decide +kernel)) ggL_law_X8_game
set_option maxRecDepth 20000 in
theorem ggL_law_X7_row : GoodIn wsL_law wsX7_row := goodIn_r _ [816, 25, 578, 579, 2, 580, 817, 818, 819, 141, 72, 142, 143, 79, 134, 135, 136, 137, 39, 820, 821, 822, 147, 148, 149, 150, 151, 152, 940, 941, 942, 943, 944, 945, 946, 947, 948, 949, 994, 995, 996, 997, 998, 999, 1000, 1001, 1002] (by decide +kernel) (by decide +kernel)
set_option maxRecDepth 20000 in
theorem gL_law_X7_row : GoodIn wsL_law (wsV RL 93 RX7 yX7_row wsX7_row) := goodIn_app (goodIn_of _ (by decide +kernel)) ggL_law_X7_row
set_option maxRecDepth 20000 in
theorem ggL_law_X8_row : GoodIn wsL_law wsX8_row := goodIn_r _ [826, 827, 120, 158, 159, 5, 160, 161, 162, 163, 164, 102, 950, 951, 952, 953, 954, 955, 956, 957, 958, 959, 960, 961, 962, 963, 964, 965, 966, 967, 968, 969, 970, 971, 972, 973, 974, 975, 976, 977, 978, 979, 980, 981, 982] (by decide +kernel) (by decide +kernel)
set_option maxRecDepth 20000 in
theorem gL_law_X8_row : GoodIn wsL_law (wsV RL 96 RX8 yX8_row wsX8_row) := goodIn_app (goodIn_of _ (by decide +kernel)) ggL_law_X8_row
set_option maxRecDepth 20000 in
theorem ggL_law_X7_judge : GoodIn wsL_law wsX7_judge := goodIn_r _ [831, 25, 832, 833, 834, 24, 835, 836, 837, 838, 188, 72, 189, 143, 839, 840, 841, 199, 200, 79, 842, 843, 844, 845, 846, 847, 848, 849, 850, 851, 852, 349, 350, 940, 941, 942, 943, 944, 945, 946, 947, 948, 949, 994, 995, 996, 997, 998, 999, 1000, 1001, 1002] (by decide +kernel) (by decide +kernel)
set_option maxRecDepth 20000 in
theorem gL_law_X7_judge : GoodIn wsL_law (wsV RL 97 RX7 yX7_judge wsX7_judge) := goodIn_app (goodIn_of _ (by decide +kernel)) ggL_law_X7_judge
set_option maxRecDepth 20000 in
theorem ggL_law_X8_judge : GoodIn wsL_law wsX8_judge := goodIn_r _ [856, 827, 857, 858, 859, 5, 860, 120, 950, 951, 952, 953, 954, 955, 956, 957, 958, 959, 960, 961, 962, 963, 964, 965, 966, 967, 968, 969, 970, 971, 972, 973, 974, 975, 976, 977, 978, 979, 980, 981, 982] (by decide +kernel) (by decide +kernel)
set_option maxRecDepth 20000 in
theorem gL_law_X8_judge : GoodIn wsL_law (wsV RL 100 RX8 yX8_judge wsX8_judge) := goodIn_app (goodIn_of _ (by decide +kernel)) ggL_law_X8_judge
set_option maxRecDepth 20000 in
theorem ggL_law_X7_seeds : GoodIn wsL_law wsX7_seeds := goodIn_r _ [864, 17, 15, 644, 645, 2, 646, 578, 579, 580, 134, 135, 136, 137, 39, 169, 170, 171, 14, 172, 45, 173, 174, 175, 176, 46, 47, 48, 49, 50, 51, 56, 57, 177, 178, 865, 866, 867, 868, 869, 870, 871, 528, 529, 530, 531, 872, 873, 874, 875, 527, 277, 278, 279, 62, 63, 64, 65, 280, 281, 282, 283, 284, 285, 286, 287, 288, 289, 290, 291, 292, 293, 294, 295, 296, 297, 298, 299, 300, 301, 302, 303, 304, 305, 306, 307, 308, 309, 310, 311, 312, 313, 314, 58, 59, 60, 61, 315, 316, 317, 318, 319, 320, 321, 322, 323, 324, 325, 326, 876, 877, 878, 879, 335, 336, 337, 338, 339, 340, 880, 881, 882, 883, 884, 76, 77, 78, 940, 941, 942, 943, 944, 945, 946, 947, 948, 949, 983, 984, 985, 986, 987, 988, 989, 990, 991, 992, 993] (by decide +kernel) (by decide +kernel)
set_option maxRecDepth 20000 in
theorem gL_law_X7_seeds : GoodIn wsL_law (wsV RL 101 RX7 yX7_seeds wsX7_seeds) := goodIn_app (goodIn_of _ (by decide +kernel)) ggL_law_X7_seeds
set_option maxRecDepth 20000 in
theorem ggL_law_X8_seeds : GoodIn wsL_law wsX8_seeds := goodIn_r _ [888, 889, 378, 379, 5, 380, 158, 159, 160, 161, 162, 163, 164, 102, 385, 386, 387, 388, 389, 390, 103, 104, 105, 106, 107, 108, 109, 110, 125, 391, 392, 393, 394, 395, 396, 115, 397, 398, 399, 400, 890, 891, 892, 893, 894, 895, 896, 897, 898, 899, 900, 518, 519, 520, 521, 409, 410, 411, 412, 413, 414, 415, 416, 417, 418, 419, 420, 421, 422, 423, 424, 425, 426, 427, 428, 429, 430, 431, 432, 433, 434, 435, 436, 437, 438, 439, 440, 441, 442, 443, 444, 445, 446, 447, 448, 126, 127, 128, 129, 545, 546, 547, 548, 549, 550, 551, 901, 902, 903, 904, 950, 951, 952, 953, 954, 955, 956, 957, 958, 959, 960, 961, 962, 963, 964, 965, 966, 967, 968, 969, 970, 971, 972, 973, 974, 975, 976, 977, 978, 979, 980, 981, 982] (by decide +kernel) (by decide +kernel)
set_option maxRecDepth 20000 in
theorem gL_law_X8_seeds : GoodIn wsL_law (wsV RL 105 RX8 yX8_seeds wsX8_seeds) := goodIn_app (goodIn_of _ (by decide +kernel)) ggL_law_X8_seeds
set_option maxRecDepth 20000 in
theorem ggL_law_X7_image : GoodIn wsL_law wsX7_image := goodIn_r _ [908, 16, 15, 40, 169, 170, 171, 14, 172, 45, 173, 174, 175, 176, 46, 47, 48, 49, 50, 51, 56, 57, 177, 178, 528, 529, 530, 531, 940, 941, 942, 943, 944, 945, 946, 947, 948, 949, 983, 984, 985, 986, 987, 988, 989, 990, 991, 992, 993] (by decide +kernel) (by decide +kernel)
set_option maxRecDepth 20000 in
theorem gL_law_X7_image : GoodIn wsL_law (wsV RL 106 RX7 yX7_image wsX7_image) := goodIn_app (goodIn_of _ (by decide +kernel)) ggL_law_X7_image
set_option maxRecDepth 20000 in
theorem ggL_law_X8_image : GoodIn wsL_law wsX8_image := goodIn_r _ [912, 913, 125, 385, 386, 387, 5, 388, 389, 390, 103, 104, 105, 106, 107, 108, 109, 110, 391, 392, 393, 394, 395, 396, 115, 397, 398, 399, 400, 950, 951, 952, 953, 954, 955, 956, 957, 958, 959, 960, 961, 962, 963, 964, 965, 966, 967, 968, 969, 970, 971, 972, 973, 974, 975, 976, 977, 978, 979, 980, 981, 982] (by decide +kernel) (by decide +kernel)
set_option maxRecDepth 20000 in
theorem gL_law_X8_image : GoodIn wsL_law (wsV RL 109 RX8 yX8_image wsX8_image) := goodIn_app (goodIn_of _ (by decide +kernel)) ggL_law_X8_image
set_option maxRecDepth 20000 in
theorem ggL_law_X7_restore : GoodIn wsL_law wsX7_restore := goodIn_r _ [917, 40, 15, 16, 134, 135, 136, 2, 137, 39, 169, 170, 171, 14, 172, 45, 173, 174, 175, 176, 46, 47, 48, 49, 50, 51, 56, 57, 177, 178, 528, 529, 530, 531, 940, 941, 942, 943, 944, 945, 946, 947, 948, 949, 983, 984, 985, 986, 987, 988, 989, 990, 991, 992, 993] (by decide +kernel) (by decide +kernel)
set_option maxRecDepth 20000 in
theorem gL_law_X7_restore : GoodIn wsL_law (wsV RL 110 RX7 yX7_restore wsX7_restore) := goodIn_app (goodIn_of _ (by decide +kernel)) ggL_law_X7_restore
set_option maxRecDepth 20000 in
theorem ggL_law_X8_restore : GoodIn wsL_law wsX8_restore := goodIn_r _ [921, 913, 125, 161, 162, 163, 5, 164, 102, 385, 386, 387, 388, 389, 390, 103, 104, 105, 106, 107, 108, 109, 110, 391, 392, 393, 394, 395, 396, 115, 397, 398, 399, 400, 950, 951, 952, 953, 954, 955, 956, 957, 958, 959, 960, 961, 962, 963, 964, 965, 966, 967, 968, 969, 970, 971, 972, 973, 974, 975, 976, 977, 978, 979, 980, 981, 982] (by decide +kernel) (by decide +kernel)
set_option maxRecDepth 20000 in
theorem gL_law_X8_restore : GoodIn wsL_law (wsV RL 113 RX8 yX8_restore wsX8_restore) := goodIn_app (goodIn_of _ (by decide +kernel)) ggL_law_X8_restore
set_option maxRecDepth 20000 in
theorem ggL_law_X7_count : GoodIn wsL_law wsX7_count := goodIn_r _ [925, 39, 15, 21, 25, 528, 529, 530, 14, 531, 56, 876, 877, 878, 879, 57, 335, 336, 304, 337, 338, 339, 340, 880, 881, 882, 883, 47, 884, 76, 77, 78, 295, 296, 297, 486, 487, 488, 489, 177, 490, 491, 492, 493, 178, 926, 927, 928, 929, 51, 930, 186, 187, 188, 72, 189, 143, 931, 837, 838, 940, 941, 942, 943, 944, 945, 946, 947, 948, 949, 983, 984, 985, 986, 987, 988, 989, 990, 991, 992, 993, 994, 995, 996, 997, 998, 999, 1000, 1001, 1002] (by decide +kernel) (by decide +kernel)
set_option maxRecDepth 20000 in
theorem gL_law_X7_count : GoodIn wsL_law (wsV RL 114 RX7 yX7_count wsX7_count) := goodIn_app (goodIn_of _ (by decide +kernel)) ggL_law_X7_count
set_option maxRecDepth 20000 in
theorem ggL_law_X8_count : GoodIn wsL_law wsX8_count := goodIn_r _ [935, 102, 125, 391, 392, 157, 827, 378, 379, 5, 380, 545, 546, 547, 548, 108, 549, 550, 551, 901, 902, 903, 904, 103, 936, 937, 938, 939, 110, 950, 951, 952, 953, 954, 955, 956, 957, 958, 959, 960, 961, 962, 963, 964, 965, 966, 967, 968, 969, 970, 971, 972, 973, 974, 975, 976, 977, 978, 979, 980, 981, 982] (by decide +kernel) (by decide +kernel)
set_option maxRecDepth 20000 in
theorem gL_law_X8_count : GoodIn wsL_law (wsV RL 117 RX8 yX8_count wsX8_count) := goodIn_app (goodIn_of _ (by decide +kernel)) ggL_law_X8_count
theorem dL_law_0 : decode cL_law 0 = .ok (.new 7, 3) := by decide +kernel
theorem dL_law_3 : decode cL_law 3 = .ok (.dup, 1) := by decide +kernel
theorem dL_law_4 : decode cL_law 4 = .ok (.invokespecial 9, 3) := by decide +kernel
theorem dL_law_7 : decode cL_law 7 = .ok (.astore_n 1, 1) := by decide +kernel
theorem dL_law_8 : decode cL_law 8 = .ok (.new 10, 3) := by decide +kernel
theorem dL_law_11 : decode cL_law 11 = .ok (.dup, 1) := by decide +kernel
theorem dL_law_12 : decode cL_law 12 = .ok (.invokespecial 12, 3) := by decide +kernel
theorem dL_law_15 : decode cL_law 15 = .ok (.astore_n 2, 1) := by decide +kernel
theorem dL_law_16 : decode cL_law 16 = .ok (.iconst 0, 1) := by decide +kernel
theorem dL_law_17 : decode cL_law 17 = .ok (.istore_n 3, 1) := by decide +kernel
theorem dL_law_18 : decode cL_law 18 = .ok (.iload_n 3, 1) := by decide +kernel
theorem dL_law_19 : decode cL_law 19 = .ok (.aload_n 0, 1) := by decide +kernel
theorem dL_law_20 : decode cL_law 20 = .ok (.arraylength, 1) := by decide +kernel
theorem dL_law_21 : decode cL_law 21 = .ok (.iconst 5, 1) := by decide +kernel
theorem dL_law_22 : decode cL_law 22 = .ok (.isub, 1) := by decide +kernel
theorem dL_law_23 : decode cL_law 23 = .ok (.if_icmp .gt 776, 3) := by decide +kernel
theorem dL_law_26 : decode cL_law 26 = .ok (.aload_n 0, 1) := by decide +kernel
theorem dL_law_27 : decode cL_law 27 = .ok (.iload_n 3, 1) := by decide +kernel
theorem dL_law_28 : decode cL_law 28 = .ok (.iaload, 1) := by decide +kernel
theorem dL_law_29 : decode cL_law 29 = .ok (.bipush 31, 2) := by decide +kernel
theorem dL_law_31 : decode cL_law 31 = .ok (.iand, 1) := by decide +kernel
theorem dL_law_32 : decode cL_law 32 = .ok (.tableswitch 761 0 24 #[116, 139, 152, 185, 218, 251, 284, 337, 360, 383, 396, 419, 452, 485, 518, 541, 574, 597, 610, 633, 656, 669, 712, 725, 738], 116) := by decide +kernel
theorem dL_law_148 : decode cL_law 148 = .ok (.aload_n 1, 1) := by decide +kernel
theorem dL_law_149 : decode cL_law 149 = .ok (.aload_n 0, 1) := by decide +kernel
theorem dL_law_150 : decode cL_law 150 = .ok (.iload_n 3, 1) := by decide +kernel
theorem dL_law_151 : decode cL_law 151 = .ok (.iconst 1, 1) := by decide +kernel
theorem dL_law_152 : decode cL_law 152 = .ok (.iadd, 1) := by decide +kernel
theorem dL_law_153 : decode cL_law 153 = .ok (.iaload, 1) := by decide +kernel
theorem dL_law_154 : decode cL_law 154 = .ok (.invokevirtual 13, 3) := by decide +kernel
theorem dL_law_157 : decode cL_law 157 = .ok (.aload_n 2, 1) := by decide +kernel
theorem dL_law_158 : decode cL_law 158 = .ok (.aload_n 0, 1) := by decide +kernel
theorem dL_law_159 : decode cL_law 159 = .ok (.iload_n 3, 1) := by decide +kernel
theorem dL_law_160 : decode cL_law 160 = .ok (.iconst 1, 1) := by decide +kernel
theorem dL_law_161 : decode cL_law 161 = .ok (.iadd, 1) := by decide +kernel
theorem dL_law_162 : decode cL_law 162 = .ok (.iaload, 1) := by decide +kernel
theorem dL_law_163 : decode cL_law 163 = .ok (.invokevirtual 17, 3) := by decide +kernel
theorem dL_law_166 : decode cL_law 166 = .ok (.if_icmp .eq 627, 3) := by decide +kernel
theorem dL_law_169 : decode cL_law 169 = .ok (.iconst 0, 1) := by decide +kernel
theorem dL_law_170 : decode cL_law 170 = .ok (.ireturn, 1) := by decide +kernel
theorem dL_law_171 : decode cL_law 171 = .ok (.aload_n 1, 1) := by decide +kernel
theorem dL_law_172 : decode cL_law 172 = .ok (.invokevirtual 18, 3) := by decide +kernel
theorem dL_law_175 : decode cL_law 175 = .ok (.aload_n 2, 1) := by decide +kernel
theorem dL_law_176 : decode cL_law 176 = .ok (.invokevirtual 22, 3) := by decide +kernel
theorem dL_law_179 : decode cL_law 179 = .ok (.if_icmp .eq 614, 3) := by decide +kernel
theorem dL_law_182 : decode cL_law 182 = .ok (.iconst 0, 1) := by decide +kernel
theorem dL_law_183 : decode cL_law 183 = .ok (.ireturn, 1) := by decide +kernel
theorem dL_law_184 : decode cL_law 184 = .ok (.aload_n 1, 1) := by decide +kernel
theorem dL_law_185 : decode cL_law 185 = .ok (.aload_n 0, 1) := by decide +kernel
theorem dL_law_186 : decode cL_law 186 = .ok (.iload_n 3, 1) := by decide +kernel
theorem dL_law_187 : decode cL_law 187 = .ok (.iconst 1, 1) := by decide +kernel
theorem dL_law_188 : decode cL_law 188 = .ok (.iadd, 1) := by decide +kernel
theorem dL_law_189 : decode cL_law 189 = .ok (.iaload, 1) := by decide +kernel
theorem dL_law_190 : decode cL_law 190 = .ok (.aload_n 0, 1) := by decide +kernel
theorem dL_law_191 : decode cL_law 191 = .ok (.iload_n 3, 1) := by decide +kernel
theorem dL_law_192 : decode cL_law 192 = .ok (.iconst 2, 1) := by decide +kernel
theorem dL_law_193 : decode cL_law 193 = .ok (.iadd, 1) := by decide +kernel
theorem dL_law_194 : decode cL_law 194 = .ok (.iaload, 1) := by decide +kernel
theorem dL_law_195 : decode cL_law 195 = .ok (.invokevirtual 23, 3) := by decide +kernel
theorem dL_law_198 : decode cL_law 198 = .ok (.aload_n 2, 1) := by decide +kernel
theorem dL_law_199 : decode cL_law 199 = .ok (.aload_n 0, 1) := by decide +kernel
theorem dL_law_200 : decode cL_law 200 = .ok (.iload_n 3, 1) := by decide +kernel
theorem dL_law_201 : decode cL_law 201 = .ok (.iconst 1, 1) := by decide +kernel
theorem dL_law_202 : decode cL_law 202 = .ok (.iadd, 1) := by decide +kernel
theorem dL_law_203 : decode cL_law 203 = .ok (.iaload, 1) := by decide +kernel
theorem dL_law_204 : decode cL_law 204 = .ok (.aload_n 0, 1) := by decide +kernel
theorem dL_law_205 : decode cL_law 205 = .ok (.iload_n 3, 1) := by decide +kernel
theorem dL_law_206 : decode cL_law 206 = .ok (.iconst 2, 1) := by decide +kernel
theorem dL_law_207 : decode cL_law 207 = .ok (.iadd, 1) := by decide +kernel
theorem dL_law_208 : decode cL_law 208 = .ok (.iaload, 1) := by decide +kernel
theorem dL_law_209 : decode cL_law 209 = .ok (.invokevirtual 27, 3) := by decide +kernel
theorem dL_law_212 : decode cL_law 212 = .ok (.if_icmp .eq 581, 3) := by decide +kernel
theorem dL_law_215 : decode cL_law 215 = .ok (.iconst 0, 1) := by decide +kernel
theorem dL_law_216 : decode cL_law 216 = .ok (.ireturn, 1) := by decide +kernel
theorem dL_law_217 : decode cL_law 217 = .ok (.aload_n 1, 1) := by decide +kernel
theorem dL_law_218 : decode cL_law 218 = .ok (.aload_n 0, 1) := by decide +kernel
theorem dL_law_219 : decode cL_law 219 = .ok (.iload_n 3, 1) := by decide +kernel
theorem dL_law_220 : decode cL_law 220 = .ok (.iconst 1, 1) := by decide +kernel
theorem dL_law_221 : decode cL_law 221 = .ok (.iadd, 1) := by decide +kernel
theorem dL_law_222 : decode cL_law 222 = .ok (.iaload, 1) := by decide +kernel
theorem dL_law_223 : decode cL_law 223 = .ok (.aload_n 0, 1) := by decide +kernel
theorem dL_law_224 : decode cL_law 224 = .ok (.iload_n 3, 1) := by decide +kernel
theorem dL_law_225 : decode cL_law 225 = .ok (.iconst 2, 1) := by decide +kernel
theorem dL_law_226 : decode cL_law 226 = .ok (.iadd, 1) := by decide +kernel
theorem dL_law_227 : decode cL_law 227 = .ok (.iaload, 1) := by decide +kernel
theorem dL_law_228 : decode cL_law 228 = .ok (.invokevirtual 28, 3) := by decide +kernel
theorem dL_law_231 : decode cL_law 231 = .ok (.aload_n 2, 1) := by decide +kernel
theorem dL_law_232 : decode cL_law 232 = .ok (.aload_n 0, 1) := by decide +kernel
theorem dL_law_233 : decode cL_law 233 = .ok (.iload_n 3, 1) := by decide +kernel
theorem dL_law_234 : decode cL_law 234 = .ok (.iconst 1, 1) := by decide +kernel
theorem dL_law_235 : decode cL_law 235 = .ok (.iadd, 1) := by decide +kernel
theorem dL_law_236 : decode cL_law 236 = .ok (.iaload, 1) := by decide +kernel
theorem dL_law_237 : decode cL_law 237 = .ok (.aload_n 0, 1) := by decide +kernel
theorem dL_law_238 : decode cL_law 238 = .ok (.iload_n 3, 1) := by decide +kernel
theorem dL_law_239 : decode cL_law 239 = .ok (.iconst 2, 1) := by decide +kernel
theorem dL_law_240 : decode cL_law 240 = .ok (.iadd, 1) := by decide +kernel
theorem dL_law_241 : decode cL_law 241 = .ok (.iaload, 1) := by decide +kernel
theorem dL_law_242 : decode cL_law 242 = .ok (.invokevirtual 31, 3) := by decide +kernel
theorem dL_law_245 : decode cL_law 245 = .ok (.if_icmp .eq 548, 3) := by decide +kernel
theorem dL_law_248 : decode cL_law 248 = .ok (.iconst 0, 1) := by decide +kernel
theorem dL_law_249 : decode cL_law 249 = .ok (.ireturn, 1) := by decide +kernel
theorem dL_law_250 : decode cL_law 250 = .ok (.aload_n 1, 1) := by decide +kernel
theorem dL_law_251 : decode cL_law 251 = .ok (.aload_n 0, 1) := by decide +kernel
theorem dL_law_252 : decode cL_law 252 = .ok (.iload_n 3, 1) := by decide +kernel
theorem dL_law_253 : decode cL_law 253 = .ok (.iconst 1, 1) := by decide +kernel
theorem dL_law_254 : decode cL_law 254 = .ok (.iadd, 1) := by decide +kernel
theorem dL_law_255 : decode cL_law 255 = .ok (.iaload, 1) := by decide +kernel
theorem dL_law_256 : decode cL_law 256 = .ok (.aload_n 0, 1) := by decide +kernel
theorem dL_law_257 : decode cL_law 257 = .ok (.iload_n 3, 1) := by decide +kernel
theorem dL_law_258 : decode cL_law 258 = .ok (.iconst 2, 1) := by decide +kernel
theorem dL_law_259 : decode cL_law 259 = .ok (.iadd, 1) := by decide +kernel
theorem dL_law_260 : decode cL_law 260 = .ok (.iaload, 1) := by decide +kernel
theorem dL_law_261 : decode cL_law 261 = .ok (.invokevirtual 32, 3) := by decide +kernel
theorem dL_law_264 : decode cL_law 264 = .ok (.aload_n 2, 1) := by decide +kernel
theorem dL_law_265 : decode cL_law 265 = .ok (.aload_n 0, 1) := by decide +kernel
theorem dL_law_266 : decode cL_law 266 = .ok (.iload_n 3, 1) := by decide +kernel
theorem dL_law_267 : decode cL_law 267 = .ok (.iconst 1, 1) := by decide +kernel
theorem dL_law_268 : decode cL_law 268 = .ok (.iadd, 1) := by decide +kernel
theorem dL_law_269 : decode cL_law 269 = .ok (.iaload, 1) := by decide +kernel
theorem dL_law_270 : decode cL_law 270 = .ok (.aload_n 0, 1) := by decide +kernel
theorem dL_law_271 : decode cL_law 271 = .ok (.iload_n 3, 1) := by decide +kernel
theorem dL_law_272 : decode cL_law 272 = .ok (.iconst 2, 1) := by decide +kernel
theorem dL_law_273 : decode cL_law 273 = .ok (.iadd, 1) := by decide +kernel
theorem dL_law_274 : decode cL_law 274 = .ok (.iaload, 1) := by decide +kernel
theorem dL_law_275 : decode cL_law 275 = .ok (.invokevirtual 35, 3) := by decide +kernel
theorem dL_law_278 : decode cL_law 278 = .ok (.if_icmp .eq 515, 3) := by decide +kernel
theorem dL_law_281 : decode cL_law 281 = .ok (.iconst 0, 1) := by decide +kernel
theorem dL_law_282 : decode cL_law 282 = .ok (.ireturn, 1) := by decide +kernel
theorem dL_law_283 : decode cL_law 283 = .ok (.aload_n 1, 1) := by decide +kernel
theorem dL_law_284 : decode cL_law 284 = .ok (.aload_n 0, 1) := by decide +kernel
theorem dL_law_285 : decode cL_law 285 = .ok (.iload_n 3, 1) := by decide +kernel
theorem dL_law_286 : decode cL_law 286 = .ok (.iconst 1, 1) := by decide +kernel
theorem dL_law_287 : decode cL_law 287 = .ok (.iadd, 1) := by decide +kernel
theorem dL_law_288 : decode cL_law 288 = .ok (.iaload, 1) := by decide +kernel
theorem dL_law_289 : decode cL_law 289 = .ok (.aload_n 0, 1) := by decide +kernel
theorem dL_law_290 : decode cL_law 290 = .ok (.iload_n 3, 1) := by decide +kernel
theorem dL_law_291 : decode cL_law 291 = .ok (.iconst 2, 1) := by decide +kernel
theorem dL_law_292 : decode cL_law 292 = .ok (.iadd, 1) := by decide +kernel
theorem dL_law_293 : decode cL_law 293 = .ok (.iaload, 1) := by decide +kernel
theorem dL_law_294 : decode cL_law 294 = .ok (.invokevirtual 36, 3) := by decide +kernel
theorem dL_law_297 : decode cL_law 297 = .ok (.aload_n 2, 1) := by decide +kernel
theorem dL_law_298 : decode cL_law 298 = .ok (.aload_n 0, 1) := by decide +kernel
theorem dL_law_299 : decode cL_law 299 = .ok (.iload_n 3, 1) := by decide +kernel
theorem dL_law_300 : decode cL_law 300 = .ok (.iconst 1, 1) := by decide +kernel
theorem dL_law_301 : decode cL_law 301 = .ok (.iadd, 1) := by decide +kernel
theorem dL_law_302 : decode cL_law 302 = .ok (.iaload, 1) := by decide +kernel
theorem dL_law_303 : decode cL_law 303 = .ok (.aload_n 0, 1) := by decide +kernel
theorem dL_law_304 : decode cL_law 304 = .ok (.iload_n 3, 1) := by decide +kernel
theorem dL_law_305 : decode cL_law 305 = .ok (.iconst 2, 1) := by decide +kernel
theorem dL_law_306 : decode cL_law 306 = .ok (.iadd, 1) := by decide +kernel
theorem dL_law_307 : decode cL_law 307 = .ok (.iaload, 1) := by decide +kernel
theorem dL_law_308 : decode cL_law 308 = .ok (.invokevirtual 39, 3) := by decide +kernel
theorem dL_law_311 : decode cL_law 311 = .ok (.if_icmp .eq 482, 3) := by decide +kernel
theorem dL_law_314 : decode cL_law 314 = .ok (.iconst 0, 1) := by decide +kernel
theorem dL_law_315 : decode cL_law 315 = .ok (.ireturn, 1) := by decide +kernel
theorem dL_law_316 : decode cL_law 316 = .ok (.aload_n 1, 1) := by decide +kernel
theorem dL_law_317 : decode cL_law 317 = .ok (.aload_n 0, 1) := by decide +kernel
theorem dL_law_318 : decode cL_law 318 = .ok (.iload_n 3, 1) := by decide +kernel
theorem dL_law_319 : decode cL_law 319 = .ok (.iconst 1, 1) := by decide +kernel
theorem dL_law_320 : decode cL_law 320 = .ok (.iadd, 1) := by decide +kernel
theorem dL_law_321 : decode cL_law 321 = .ok (.iaload, 1) := by decide +kernel
theorem dL_law_322 : decode cL_law 322 = .ok (.aload_n 0, 1) := by decide +kernel
theorem dL_law_323 : decode cL_law 323 = .ok (.iload_n 3, 1) := by decide +kernel
theorem dL_law_324 : decode cL_law 324 = .ok (.iconst 2, 1) := by decide +kernel
theorem dL_law_325 : decode cL_law 325 = .ok (.iadd, 1) := by decide +kernel
theorem dL_law_326 : decode cL_law 326 = .ok (.iaload, 1) := by decide +kernel
theorem dL_law_327 : decode cL_law 327 = .ok (.aload_n 0, 1) := by decide +kernel
theorem dL_law_328 : decode cL_law 328 = .ok (.iload_n 3, 1) := by decide +kernel
theorem dL_law_329 : decode cL_law 329 = .ok (.iconst 3, 1) := by decide +kernel
theorem dL_law_330 : decode cL_law 330 = .ok (.iadd, 1) := by decide +kernel
theorem dL_law_331 : decode cL_law 331 = .ok (.iaload, 1) := by decide +kernel
theorem dL_law_332 : decode cL_law 332 = .ok (.aload_n 0, 1) := by decide +kernel
theorem dL_law_333 : decode cL_law 333 = .ok (.iload_n 3, 1) := by decide +kernel
theorem dL_law_334 : decode cL_law 334 = .ok (.iconst 4, 1) := by decide +kernel
theorem dL_law_335 : decode cL_law 335 = .ok (.iadd, 1) := by decide +kernel
theorem dL_law_336 : decode cL_law 336 = .ok (.iaload, 1) := by decide +kernel
theorem dL_law_337 : decode cL_law 337 = .ok (.invokevirtual 40, 3) := by decide +kernel
theorem dL_law_340 : decode cL_law 340 = .ok (.aload_n 2, 1) := by decide +kernel
theorem dL_law_341 : decode cL_law 341 = .ok (.aload_n 0, 1) := by decide +kernel
theorem dL_law_342 : decode cL_law 342 = .ok (.iload_n 3, 1) := by decide +kernel
theorem dL_law_343 : decode cL_law 343 = .ok (.iconst 1, 1) := by decide +kernel
theorem dL_law_344 : decode cL_law 344 = .ok (.iadd, 1) := by decide +kernel
theorem dL_law_345 : decode cL_law 345 = .ok (.iaload, 1) := by decide +kernel
theorem dL_law_346 : decode cL_law 346 = .ok (.aload_n 0, 1) := by decide +kernel
theorem dL_law_347 : decode cL_law 347 = .ok (.iload_n 3, 1) := by decide +kernel
theorem dL_law_348 : decode cL_law 348 = .ok (.iconst 2, 1) := by decide +kernel
theorem dL_law_349 : decode cL_law 349 = .ok (.iadd, 1) := by decide +kernel
theorem dL_law_350 : decode cL_law 350 = .ok (.iaload, 1) := by decide +kernel
theorem dL_law_351 : decode cL_law 351 = .ok (.aload_n 0, 1) := by decide +kernel
theorem dL_law_352 : decode cL_law 352 = .ok (.iload_n 3, 1) := by decide +kernel
theorem dL_law_353 : decode cL_law 353 = .ok (.iconst 3, 1) := by decide +kernel
theorem dL_law_354 : decode cL_law 354 = .ok (.iadd, 1) := by decide +kernel
theorem dL_law_355 : decode cL_law 355 = .ok (.iaload, 1) := by decide +kernel
theorem dL_law_356 : decode cL_law 356 = .ok (.aload_n 0, 1) := by decide +kernel
theorem dL_law_357 : decode cL_law 357 = .ok (.iload_n 3, 1) := by decide +kernel
theorem dL_law_358 : decode cL_law 358 = .ok (.iconst 4, 1) := by decide +kernel
theorem dL_law_359 : decode cL_law 359 = .ok (.iadd, 1) := by decide +kernel
theorem dL_law_360 : decode cL_law 360 = .ok (.iaload, 1) := by decide +kernel
theorem dL_law_361 : decode cL_law 361 = .ok (.invokevirtual 44, 3) := by decide +kernel
theorem dL_law_364 : decode cL_law 364 = .ok (.if_icmp .eq 429, 3) := by decide +kernel
theorem dL_law_367 : decode cL_law 367 = .ok (.iconst 0, 1) := by decide +kernel
theorem dL_law_368 : decode cL_law 368 = .ok (.ireturn, 1) := by decide +kernel
theorem dL_law_369 : decode cL_law 369 = .ok (.aload_n 1, 1) := by decide +kernel
theorem dL_law_370 : decode cL_law 370 = .ok (.aload_n 0, 1) := by decide +kernel
theorem dL_law_371 : decode cL_law 371 = .ok (.iload_n 3, 1) := by decide +kernel
theorem dL_law_372 : decode cL_law 372 = .ok (.iconst 1, 1) := by decide +kernel
theorem dL_law_373 : decode cL_law 373 = .ok (.iadd, 1) := by decide +kernel
theorem dL_law_374 : decode cL_law 374 = .ok (.iaload, 1) := by decide +kernel
theorem dL_law_375 : decode cL_law 375 = .ok (.invokevirtual 45, 3) := by decide +kernel
theorem dL_law_378 : decode cL_law 378 = .ok (.aload_n 2, 1) := by decide +kernel
theorem dL_law_379 : decode cL_law 379 = .ok (.aload_n 0, 1) := by decide +kernel
theorem dL_law_380 : decode cL_law 380 = .ok (.iload_n 3, 1) := by decide +kernel
theorem dL_law_381 : decode cL_law 381 = .ok (.iconst 1, 1) := by decide +kernel
theorem dL_law_382 : decode cL_law 382 = .ok (.iadd, 1) := by decide +kernel
theorem dL_law_383 : decode cL_law 383 = .ok (.iaload, 1) := by decide +kernel
theorem dL_law_384 : decode cL_law 384 = .ok (.invokevirtual 48, 3) := by decide +kernel
theorem dL_law_387 : decode cL_law 387 = .ok (.if_icmp .eq 406, 3) := by decide +kernel
theorem dL_law_390 : decode cL_law 390 = .ok (.iconst 0, 1) := by decide +kernel
theorem dL_law_391 : decode cL_law 391 = .ok (.ireturn, 1) := by decide +kernel
theorem dL_law_392 : decode cL_law 392 = .ok (.aload_n 1, 1) := by decide +kernel
theorem dL_law_393 : decode cL_law 393 = .ok (.aload_n 0, 1) := by decide +kernel
theorem dL_law_394 : decode cL_law 394 = .ok (.iload_n 3, 1) := by decide +kernel
theorem dL_law_395 : decode cL_law 395 = .ok (.iconst 1, 1) := by decide +kernel
theorem dL_law_396 : decode cL_law 396 = .ok (.iadd, 1) := by decide +kernel
theorem dL_law_397 : decode cL_law 397 = .ok (.iaload, 1) := by decide +kernel
theorem dL_law_398 : decode cL_law 398 = .ok (.invokevirtual 49, 3) := by decide +kernel
theorem dL_law_401 : decode cL_law 401 = .ok (.aload_n 2, 1) := by decide +kernel
theorem dL_law_402 : decode cL_law 402 = .ok (.aload_n 0, 1) := by decide +kernel
theorem dL_law_403 : decode cL_law 403 = .ok (.iload_n 3, 1) := by decide +kernel
theorem dL_law_404 : decode cL_law 404 = .ok (.iconst 1, 1) := by decide +kernel
theorem dL_law_405 : decode cL_law 405 = .ok (.iadd, 1) := by decide +kernel
theorem dL_law_406 : decode cL_law 406 = .ok (.iaload, 1) := by decide +kernel
theorem dL_law_407 : decode cL_law 407 = .ok (.invokevirtual 52, 3) := by decide +kernel
theorem dL_law_410 : decode cL_law 410 = .ok (.if_icmp .eq 383, 3) := by decide +kernel
theorem dL_law_413 : decode cL_law 413 = .ok (.iconst 0, 1) := by decide +kernel
theorem dL_law_414 : decode cL_law 414 = .ok (.ireturn, 1) := by decide +kernel
theorem dL_law_415 : decode cL_law 415 = .ok (.aload_n 1, 1) := by decide +kernel
theorem dL_law_416 : decode cL_law 416 = .ok (.invokevirtual 53, 3) := by decide +kernel
theorem dL_law_419 : decode cL_law 419 = .ok (.aload_n 2, 1) := by decide +kernel
theorem dL_law_420 : decode cL_law 420 = .ok (.invokevirtual 56, 3) := by decide +kernel
theorem dL_law_423 : decode cL_law 423 = .ok (.if_icmp .eq 370, 3) := by decide +kernel
theorem dL_law_426 : decode cL_law 426 = .ok (.iconst 0, 1) := by decide +kernel
theorem dL_law_427 : decode cL_law 427 = .ok (.ireturn, 1) := by decide +kernel
theorem dL_law_428 : decode cL_law 428 = .ok (.aload_n 1, 1) := by decide +kernel
theorem dL_law_429 : decode cL_law 429 = .ok (.aload_n 0, 1) := by decide +kernel
theorem dL_law_430 : decode cL_law 430 = .ok (.iload_n 3, 1) := by decide +kernel
theorem dL_law_431 : decode cL_law 431 = .ok (.iconst 1, 1) := by decide +kernel
theorem dL_law_432 : decode cL_law 432 = .ok (.iadd, 1) := by decide +kernel
theorem dL_law_433 : decode cL_law 433 = .ok (.iaload, 1) := by decide +kernel
theorem dL_law_434 : decode cL_law 434 = .ok (.invokevirtual 57, 3) := by decide +kernel
theorem dL_law_437 : decode cL_law 437 = .ok (.aload_n 2, 1) := by decide +kernel
theorem dL_law_438 : decode cL_law 438 = .ok (.aload_n 0, 1) := by decide +kernel
theorem dL_law_439 : decode cL_law 439 = .ok (.iload_n 3, 1) := by decide +kernel
theorem dL_law_440 : decode cL_law 440 = .ok (.iconst 1, 1) := by decide +kernel
theorem dL_law_441 : decode cL_law 441 = .ok (.iadd, 1) := by decide +kernel
theorem dL_law_442 : decode cL_law 442 = .ok (.iaload, 1) := by decide +kernel
theorem dL_law_443 : decode cL_law 443 = .ok (.invokevirtual 60, 3) := by decide +kernel
theorem dL_law_446 : decode cL_law 446 = .ok (.if_icmp .eq 347, 3) := by decide +kernel
theorem dL_law_449 : decode cL_law 449 = .ok (.iconst 0, 1) := by decide +kernel
theorem dL_law_450 : decode cL_law 450 = .ok (.ireturn, 1) := by decide +kernel
theorem dL_law_451 : decode cL_law 451 = .ok (.aload_n 1, 1) := by decide +kernel
theorem dL_law_452 : decode cL_law 452 = .ok (.aload_n 0, 1) := by decide +kernel
theorem dL_law_453 : decode cL_law 453 = .ok (.iload_n 3, 1) := by decide +kernel
theorem dL_law_454 : decode cL_law 454 = .ok (.iconst 1, 1) := by decide +kernel
theorem dL_law_455 : decode cL_law 455 = .ok (.iadd, 1) := by decide +kernel
theorem dL_law_456 : decode cL_law 456 = .ok (.iaload, 1) := by decide +kernel
theorem dL_law_457 : decode cL_law 457 = .ok (.aload_n 0, 1) := by decide +kernel
theorem dL_law_458 : decode cL_law 458 = .ok (.iload_n 3, 1) := by decide +kernel
theorem dL_law_459 : decode cL_law 459 = .ok (.iconst 2, 1) := by decide +kernel
theorem dL_law_460 : decode cL_law 460 = .ok (.iadd, 1) := by decide +kernel
theorem dL_law_461 : decode cL_law 461 = .ok (.iaload, 1) := by decide +kernel
theorem dL_law_462 : decode cL_law 462 = .ok (.invokevirtual 61, 3) := by decide +kernel
theorem dL_law_465 : decode cL_law 465 = .ok (.aload_n 2, 1) := by decide +kernel
theorem dL_law_466 : decode cL_law 466 = .ok (.aload_n 0, 1) := by decide +kernel
theorem dL_law_467 : decode cL_law 467 = .ok (.iload_n 3, 1) := by decide +kernel
theorem dL_law_468 : decode cL_law 468 = .ok (.iconst 1, 1) := by decide +kernel
theorem dL_law_469 : decode cL_law 469 = .ok (.iadd, 1) := by decide +kernel
theorem dL_law_470 : decode cL_law 470 = .ok (.iaload, 1) := by decide +kernel
theorem dL_law_471 : decode cL_law 471 = .ok (.aload_n 0, 1) := by decide +kernel
theorem dL_law_472 : decode cL_law 472 = .ok (.iload_n 3, 1) := by decide +kernel
theorem dL_law_473 : decode cL_law 473 = .ok (.iconst 2, 1) := by decide +kernel
theorem dL_law_474 : decode cL_law 474 = .ok (.iadd, 1) := by decide +kernel
theorem dL_law_475 : decode cL_law 475 = .ok (.iaload, 1) := by decide +kernel
theorem dL_law_476 : decode cL_law 476 = .ok (.invokevirtual 64, 3) := by decide +kernel
theorem dL_law_479 : decode cL_law 479 = .ok (.if_icmp .eq 314, 3) := by decide +kernel
theorem dL_law_482 : decode cL_law 482 = .ok (.iconst 0, 1) := by decide +kernel
theorem dL_law_483 : decode cL_law 483 = .ok (.ireturn, 1) := by decide +kernel
theorem dL_law_484 : decode cL_law 484 = .ok (.aload_n 1, 1) := by decide +kernel
theorem dL_law_485 : decode cL_law 485 = .ok (.aload_n 0, 1) := by decide +kernel
theorem dL_law_486 : decode cL_law 486 = .ok (.iload_n 3, 1) := by decide +kernel
theorem dL_law_487 : decode cL_law 487 = .ok (.iconst 1, 1) := by decide +kernel
theorem dL_law_488 : decode cL_law 488 = .ok (.iadd, 1) := by decide +kernel
theorem dL_law_489 : decode cL_law 489 = .ok (.iaload, 1) := by decide +kernel
theorem dL_law_490 : decode cL_law 490 = .ok (.aload_n 0, 1) := by decide +kernel
theorem dL_law_491 : decode cL_law 491 = .ok (.iload_n 3, 1) := by decide +kernel
theorem dL_law_492 : decode cL_law 492 = .ok (.iconst 2, 1) := by decide +kernel
theorem dL_law_493 : decode cL_law 493 = .ok (.iadd, 1) := by decide +kernel
theorem dL_law_494 : decode cL_law 494 = .ok (.iaload, 1) := by decide +kernel
theorem dL_law_495 : decode cL_law 495 = .ok (.invokevirtual 65, 3) := by decide +kernel
theorem dL_law_498 : decode cL_law 498 = .ok (.aload_n 2, 1) := by decide +kernel
theorem dL_law_499 : decode cL_law 499 = .ok (.aload_n 0, 1) := by decide +kernel
theorem dL_law_500 : decode cL_law 500 = .ok (.iload_n 3, 1) := by decide +kernel
theorem dL_law_501 : decode cL_law 501 = .ok (.iconst 1, 1) := by decide +kernel
theorem dL_law_502 : decode cL_law 502 = .ok (.iadd, 1) := by decide +kernel
theorem dL_law_503 : decode cL_law 503 = .ok (.iaload, 1) := by decide +kernel
theorem dL_law_504 : decode cL_law 504 = .ok (.aload_n 0, 1) := by decide +kernel
theorem dL_law_505 : decode cL_law 505 = .ok (.iload_n 3, 1) := by decide +kernel
theorem dL_law_506 : decode cL_law 506 = .ok (.iconst 2, 1) := by decide +kernel
theorem dL_law_507 : decode cL_law 507 = .ok (.iadd, 1) := by decide +kernel
theorem dL_law_508 : decode cL_law 508 = .ok (.iaload, 1) := by decide +kernel
theorem dL_law_509 : decode cL_law 509 = .ok (.invokevirtual 68, 3) := by decide +kernel
theorem dL_law_512 : decode cL_law 512 = .ok (.if_icmp .eq 281, 3) := by decide +kernel
theorem dL_law_515 : decode cL_law 515 = .ok (.iconst 0, 1) := by decide +kernel
theorem dL_law_516 : decode cL_law 516 = .ok (.ireturn, 1) := by decide +kernel
theorem dL_law_517 : decode cL_law 517 = .ok (.aload_n 1, 1) := by decide +kernel
theorem dL_law_518 : decode cL_law 518 = .ok (.aload_n 0, 1) := by decide +kernel
theorem dL_law_519 : decode cL_law 519 = .ok (.iload_n 3, 1) := by decide +kernel
theorem dL_law_520 : decode cL_law 520 = .ok (.iconst 1, 1) := by decide +kernel
theorem dL_law_521 : decode cL_law 521 = .ok (.iadd, 1) := by decide +kernel
theorem dL_law_522 : decode cL_law 522 = .ok (.iaload, 1) := by decide +kernel
theorem dL_law_523 : decode cL_law 523 = .ok (.aload_n 0, 1) := by decide +kernel
theorem dL_law_524 : decode cL_law 524 = .ok (.iload_n 3, 1) := by decide +kernel
theorem dL_law_525 : decode cL_law 525 = .ok (.iconst 2, 1) := by decide +kernel
theorem dL_law_526 : decode cL_law 526 = .ok (.iadd, 1) := by decide +kernel
theorem dL_law_527 : decode cL_law 527 = .ok (.iaload, 1) := by decide +kernel
theorem dL_law_528 : decode cL_law 528 = .ok (.invokevirtual 69, 3) := by decide +kernel
theorem dL_law_531 : decode cL_law 531 = .ok (.aload_n 2, 1) := by decide +kernel
theorem dL_law_532 : decode cL_law 532 = .ok (.aload_n 0, 1) := by decide +kernel
theorem dL_law_533 : decode cL_law 533 = .ok (.iload_n 3, 1) := by decide +kernel
theorem dL_law_534 : decode cL_law 534 = .ok (.iconst 1, 1) := by decide +kernel
theorem dL_law_535 : decode cL_law 535 = .ok (.iadd, 1) := by decide +kernel
theorem dL_law_536 : decode cL_law 536 = .ok (.iaload, 1) := by decide +kernel
theorem dL_law_537 : decode cL_law 537 = .ok (.aload_n 0, 1) := by decide +kernel
theorem dL_law_538 : decode cL_law 538 = .ok (.iload_n 3, 1) := by decide +kernel
theorem dL_law_539 : decode cL_law 539 = .ok (.iconst 2, 1) := by decide +kernel
theorem dL_law_540 : decode cL_law 540 = .ok (.iadd, 1) := by decide +kernel
theorem dL_law_541 : decode cL_law 541 = .ok (.iaload, 1) := by decide +kernel
theorem dL_law_542 : decode cL_law 542 = .ok (.invokevirtual 72, 3) := by decide +kernel
theorem dL_law_545 : decode cL_law 545 = .ok (.if_icmp .eq 248, 3) := by decide +kernel
theorem dL_law_548 : decode cL_law 548 = .ok (.iconst 0, 1) := by decide +kernel
theorem dL_law_549 : decode cL_law 549 = .ok (.ireturn, 1) := by decide +kernel
theorem dL_law_550 : decode cL_law 550 = .ok (.aload_n 1, 1) := by decide +kernel
theorem dL_law_551 : decode cL_law 551 = .ok (.aload_n 0, 1) := by decide +kernel
theorem dL_law_552 : decode cL_law 552 = .ok (.iload_n 3, 1) := by decide +kernel
theorem dL_law_553 : decode cL_law 553 = .ok (.iconst 1, 1) := by decide +kernel
theorem dL_law_554 : decode cL_law 554 = .ok (.iadd, 1) := by decide +kernel
theorem dL_law_555 : decode cL_law 555 = .ok (.iaload, 1) := by decide +kernel
theorem dL_law_556 : decode cL_law 556 = .ok (.invokevirtual 73, 3) := by decide +kernel
theorem dL_law_559 : decode cL_law 559 = .ok (.aload_n 2, 1) := by decide +kernel
theorem dL_law_560 : decode cL_law 560 = .ok (.aload_n 0, 1) := by decide +kernel
theorem dL_law_561 : decode cL_law 561 = .ok (.iload_n 3, 1) := by decide +kernel
theorem dL_law_562 : decode cL_law 562 = .ok (.iconst 1, 1) := by decide +kernel
theorem dL_law_563 : decode cL_law 563 = .ok (.iadd, 1) := by decide +kernel
theorem dL_law_564 : decode cL_law 564 = .ok (.iaload, 1) := by decide +kernel
theorem dL_law_565 : decode cL_law 565 = .ok (.invokevirtual 76, 3) := by decide +kernel
theorem dL_law_568 : decode cL_law 568 = .ok (.if_icmp .eq 225, 3) := by decide +kernel
theorem dL_law_571 : decode cL_law 571 = .ok (.iconst 0, 1) := by decide +kernel
theorem dL_law_572 : decode cL_law 572 = .ok (.ireturn, 1) := by decide +kernel
theorem dL_law_573 : decode cL_law 573 = .ok (.aload_n 1, 1) := by decide +kernel
theorem dL_law_574 : decode cL_law 574 = .ok (.aload_n 0, 1) := by decide +kernel
theorem dL_law_575 : decode cL_law 575 = .ok (.iload_n 3, 1) := by decide +kernel
theorem dL_law_576 : decode cL_law 576 = .ok (.iconst 1, 1) := by decide +kernel
theorem dL_law_577 : decode cL_law 577 = .ok (.iadd, 1) := by decide +kernel
theorem dL_law_578 : decode cL_law 578 = .ok (.iaload, 1) := by decide +kernel
theorem dL_law_579 : decode cL_law 579 = .ok (.aload_n 0, 1) := by decide +kernel
theorem dL_law_580 : decode cL_law 580 = .ok (.iload_n 3, 1) := by decide +kernel
theorem dL_law_581 : decode cL_law 581 = .ok (.iconst 2, 1) := by decide +kernel
theorem dL_law_582 : decode cL_law 582 = .ok (.iadd, 1) := by decide +kernel
theorem dL_law_583 : decode cL_law 583 = .ok (.iaload, 1) := by decide +kernel
theorem dL_law_584 : decode cL_law 584 = .ok (.invokevirtual 77, 3) := by decide +kernel
theorem dL_law_587 : decode cL_law 587 = .ok (.aload_n 2, 1) := by decide +kernel
theorem dL_law_588 : decode cL_law 588 = .ok (.aload_n 0, 1) := by decide +kernel
theorem dL_law_589 : decode cL_law 589 = .ok (.iload_n 3, 1) := by decide +kernel
theorem dL_law_590 : decode cL_law 590 = .ok (.iconst 1, 1) := by decide +kernel
theorem dL_law_591 : decode cL_law 591 = .ok (.iadd, 1) := by decide +kernel
theorem dL_law_592 : decode cL_law 592 = .ok (.iaload, 1) := by decide +kernel
theorem dL_law_593 : decode cL_law 593 = .ok (.aload_n 0, 1) := by decide +kernel
theorem dL_law_594 : decode cL_law 594 = .ok (.iload_n 3, 1) := by decide +kernel
theorem dL_law_595 : decode cL_law 595 = .ok (.iconst 2, 1) := by decide +kernel
theorem dL_law_596 : decode cL_law 596 = .ok (.iadd, 1) := by decide +kernel
theorem dL_law_597 : decode cL_law 597 = .ok (.iaload, 1) := by decide +kernel
theorem dL_law_598 : decode cL_law 598 = .ok (.invokevirtual 80, 3) := by decide +kernel
theorem dL_law_601 : decode cL_law 601 = .ok (.if_icmp .eq 192, 3) := by decide +kernel
theorem dL_law_604 : decode cL_law 604 = .ok (.iconst 0, 1) := by decide +kernel
theorem dL_law_605 : decode cL_law 605 = .ok (.ireturn, 1) := by decide +kernel
theorem dL_law_606 : decode cL_law 606 = .ok (.aload_n 1, 1) := by decide +kernel
theorem dL_law_607 : decode cL_law 607 = .ok (.aload_n 0, 1) := by decide +kernel
theorem dL_law_608 : decode cL_law 608 = .ok (.iload_n 3, 1) := by decide +kernel
theorem dL_law_609 : decode cL_law 609 = .ok (.iconst 1, 1) := by decide +kernel
theorem dL_law_610 : decode cL_law 610 = .ok (.iadd, 1) := by decide +kernel
theorem dL_law_611 : decode cL_law 611 = .ok (.iaload, 1) := by decide +kernel
theorem dL_law_612 : decode cL_law 612 = .ok (.invokevirtual 81, 3) := by decide +kernel
theorem dL_law_615 : decode cL_law 615 = .ok (.aload_n 2, 1) := by decide +kernel
theorem dL_law_616 : decode cL_law 616 = .ok (.aload_n 0, 1) := by decide +kernel
theorem dL_law_617 : decode cL_law 617 = .ok (.iload_n 3, 1) := by decide +kernel
theorem dL_law_618 : decode cL_law 618 = .ok (.iconst 1, 1) := by decide +kernel
theorem dL_law_619 : decode cL_law 619 = .ok (.iadd, 1) := by decide +kernel
theorem dL_law_620 : decode cL_law 620 = .ok (.iaload, 1) := by decide +kernel
theorem dL_law_621 : decode cL_law 621 = .ok (.invokevirtual 84, 3) := by decide +kernel
theorem dL_law_624 : decode cL_law 624 = .ok (.if_icmp .eq 169, 3) := by decide +kernel
theorem dL_law_627 : decode cL_law 627 = .ok (.iconst 0, 1) := by decide +kernel
theorem dL_law_628 : decode cL_law 628 = .ok (.ireturn, 1) := by decide +kernel
theorem dL_law_629 : decode cL_law 629 = .ok (.aload_n 1, 1) := by decide +kernel
theorem dL_law_630 : decode cL_law 630 = .ok (.invokevirtual 85, 3) := by decide +kernel
theorem dL_law_633 : decode cL_law 633 = .ok (.aload_n 2, 1) := by decide +kernel
theorem dL_law_634 : decode cL_law 634 = .ok (.invokevirtual 88, 3) := by decide +kernel
theorem dL_law_637 : decode cL_law 637 = .ok (.if_icmp .eq 156, 3) := by decide +kernel
theorem dL_law_640 : decode cL_law 640 = .ok (.iconst 0, 1) := by decide +kernel
theorem dL_law_641 : decode cL_law 641 = .ok (.ireturn, 1) := by decide +kernel
theorem dL_law_642 : decode cL_law 642 = .ok (.aload_n 1, 1) := by decide +kernel
theorem dL_law_643 : decode cL_law 643 = .ok (.aload_n 0, 1) := by decide +kernel
theorem dL_law_644 : decode cL_law 644 = .ok (.iload_n 3, 1) := by decide +kernel
theorem dL_law_645 : decode cL_law 645 = .ok (.iconst 1, 1) := by decide +kernel
theorem dL_law_646 : decode cL_law 646 = .ok (.iadd, 1) := by decide +kernel
theorem dL_law_647 : decode cL_law 647 = .ok (.iaload, 1) := by decide +kernel
theorem dL_law_648 : decode cL_law 648 = .ok (.invokevirtual 89, 3) := by decide +kernel
theorem dL_law_651 : decode cL_law 651 = .ok (.aload_n 2, 1) := by decide +kernel
theorem dL_law_652 : decode cL_law 652 = .ok (.aload_n 0, 1) := by decide +kernel
theorem dL_law_653 : decode cL_law 653 = .ok (.iload_n 3, 1) := by decide +kernel
theorem dL_law_654 : decode cL_law 654 = .ok (.iconst 1, 1) := by decide +kernel
theorem dL_law_655 : decode cL_law 655 = .ok (.iadd, 1) := by decide +kernel
theorem dL_law_656 : decode cL_law 656 = .ok (.iaload, 1) := by decide +kernel
theorem dL_law_657 : decode cL_law 657 = .ok (.invokevirtual 92, 3) := by decide +kernel
theorem dL_law_660 : decode cL_law 660 = .ok (.if_icmp .eq 133, 3) := by decide +kernel
theorem dL_law_663 : decode cL_law 663 = .ok (.iconst 0, 1) := by decide +kernel
theorem dL_law_664 : decode cL_law 664 = .ok (.ireturn, 1) := by decide +kernel
theorem dL_law_665 : decode cL_law 665 = .ok (.aload_n 1, 1) := by decide +kernel
theorem dL_law_666 : decode cL_law 666 = .ok (.aload_n 0, 1) := by decide +kernel
theorem dL_law_667 : decode cL_law 667 = .ok (.iload_n 3, 1) := by decide +kernel
theorem dL_law_668 : decode cL_law 668 = .ok (.iconst 1, 1) := by decide +kernel
theorem dL_law_669 : decode cL_law 669 = .ok (.iadd, 1) := by decide +kernel
theorem dL_law_670 : decode cL_law 670 = .ok (.iaload, 1) := by decide +kernel
theorem dL_law_671 : decode cL_law 671 = .ok (.invokevirtual 93, 3) := by decide +kernel
theorem dL_law_674 : decode cL_law 674 = .ok (.aload_n 2, 1) := by decide +kernel
theorem dL_law_675 : decode cL_law 675 = .ok (.aload_n 0, 1) := by decide +kernel
theorem dL_law_676 : decode cL_law 676 = .ok (.iload_n 3, 1) := by decide +kernel
theorem dL_law_677 : decode cL_law 677 = .ok (.iconst 1, 1) := by decide +kernel
theorem dL_law_678 : decode cL_law 678 = .ok (.iadd, 1) := by decide +kernel
theorem dL_law_679 : decode cL_law 679 = .ok (.iaload, 1) := by decide +kernel
theorem dL_law_680 : decode cL_law 680 = .ok (.invokevirtual 96, 3) := by decide +kernel
theorem dL_law_683 : decode cL_law 683 = .ok (.if_icmp .eq 110, 3) := by decide +kernel
theorem dL_law_686 : decode cL_law 686 = .ok (.iconst 0, 1) := by decide +kernel
theorem dL_law_687 : decode cL_law 687 = .ok (.ireturn, 1) := by decide +kernel
theorem dL_law_688 : decode cL_law 688 = .ok (.aload_n 1, 1) := by decide +kernel
theorem dL_law_689 : decode cL_law 689 = .ok (.invokevirtual 97, 3) := by decide +kernel
theorem dL_law_692 : decode cL_law 692 = .ok (.aload_n 2, 1) := by decide +kernel
theorem dL_law_693 : decode cL_law 693 = .ok (.invokevirtual 100, 3) := by decide +kernel
theorem dL_law_696 : decode cL_law 696 = .ok (.if_icmp .eq 97, 3) := by decide +kernel
theorem dL_law_699 : decode cL_law 699 = .ok (.iconst 0, 1) := by decide +kernel
theorem dL_law_700 : decode cL_law 700 = .ok (.ireturn, 1) := by decide +kernel
theorem dL_law_701 : decode cL_law 701 = .ok (.aload_n 1, 1) := by decide +kernel
theorem dL_law_702 : decode cL_law 702 = .ok (.aload_n 0, 1) := by decide +kernel
theorem dL_law_703 : decode cL_law 703 = .ok (.iload_n 3, 1) := by decide +kernel
theorem dL_law_704 : decode cL_law 704 = .ok (.iconst 1, 1) := by decide +kernel
theorem dL_law_705 : decode cL_law 705 = .ok (.iadd, 1) := by decide +kernel
theorem dL_law_706 : decode cL_law 706 = .ok (.iaload, 1) := by decide +kernel
theorem dL_law_707 : decode cL_law 707 = .ok (.aload_n 0, 1) := by decide +kernel
theorem dL_law_708 : decode cL_law 708 = .ok (.iload_n 3, 1) := by decide +kernel
theorem dL_law_709 : decode cL_law 709 = .ok (.iconst 2, 1) := by decide +kernel
theorem dL_law_710 : decode cL_law 710 = .ok (.iadd, 1) := by decide +kernel
theorem dL_law_711 : decode cL_law 711 = .ok (.iaload, 1) := by decide +kernel
theorem dL_law_712 : decode cL_law 712 = .ok (.aload_n 0, 1) := by decide +kernel
theorem dL_law_713 : decode cL_law 713 = .ok (.iload_n 3, 1) := by decide +kernel
theorem dL_law_714 : decode cL_law 714 = .ok (.iconst 3, 1) := by decide +kernel
theorem dL_law_715 : decode cL_law 715 = .ok (.iadd, 1) := by decide +kernel
theorem dL_law_716 : decode cL_law 716 = .ok (.iaload, 1) := by decide +kernel
theorem dL_law_717 : decode cL_law 717 = .ok (.invokevirtual 101, 3) := by decide +kernel
theorem dL_law_720 : decode cL_law 720 = .ok (.aload_n 2, 1) := by decide +kernel
theorem dL_law_721 : decode cL_law 721 = .ok (.aload_n 0, 1) := by decide +kernel
theorem dL_law_722 : decode cL_law 722 = .ok (.iload_n 3, 1) := by decide +kernel
theorem dL_law_723 : decode cL_law 723 = .ok (.iconst 1, 1) := by decide +kernel
theorem dL_law_724 : decode cL_law 724 = .ok (.iadd, 1) := by decide +kernel
theorem dL_law_725 : decode cL_law 725 = .ok (.iaload, 1) := by decide +kernel
theorem dL_law_726 : decode cL_law 726 = .ok (.aload_n 0, 1) := by decide +kernel
theorem dL_law_727 : decode cL_law 727 = .ok (.iload_n 3, 1) := by decide +kernel
theorem dL_law_728 : decode cL_law 728 = .ok (.iconst 2, 1) := by decide +kernel
theorem dL_law_729 : decode cL_law 729 = .ok (.iadd, 1) := by decide +kernel
theorem dL_law_730 : decode cL_law 730 = .ok (.iaload, 1) := by decide +kernel
theorem dL_law_731 : decode cL_law 731 = .ok (.aload_n 0, 1) := by decide +kernel
theorem dL_law_732 : decode cL_law 732 = .ok (.iload_n 3, 1) := by decide +kernel
theorem dL_law_733 : decode cL_law 733 = .ok (.iconst 3, 1) := by decide +kernel
theorem dL_law_734 : decode cL_law 734 = .ok (.iadd, 1) := by decide +kernel
theorem dL_law_735 : decode cL_law 735 = .ok (.iaload, 1) := by decide +kernel
theorem dL_law_736 : decode cL_law 736 = .ok (.invokevirtual 105, 3) := by decide +kernel
theorem dL_law_739 : decode cL_law 739 = .ok (.if_icmp .eq 54, 3) := by decide +kernel
theorem dL_law_742 : decode cL_law 742 = .ok (.iconst 0, 1) := by decide +kernel
theorem dL_law_743 : decode cL_law 743 = .ok (.ireturn, 1) := by decide +kernel
theorem dL_law_744 : decode cL_law 744 = .ok (.aload_n 1, 1) := by decide +kernel
theorem dL_law_745 : decode cL_law 745 = .ok (.invokevirtual 106, 3) := by decide +kernel
theorem dL_law_748 : decode cL_law 748 = .ok (.aload_n 2, 1) := by decide +kernel
theorem dL_law_749 : decode cL_law 749 = .ok (.invokevirtual 109, 3) := by decide +kernel
theorem dL_law_752 : decode cL_law 752 = .ok (.if_icmp .eq 41, 3) := by decide +kernel
theorem dL_law_755 : decode cL_law 755 = .ok (.iconst 0, 1) := by decide +kernel
theorem dL_law_756 : decode cL_law 756 = .ok (.ireturn, 1) := by decide +kernel
theorem dL_law_757 : decode cL_law 757 = .ok (.aload_n 1, 1) := by decide +kernel
theorem dL_law_758 : decode cL_law 758 = .ok (.invokevirtual 110, 3) := by decide +kernel
theorem dL_law_761 : decode cL_law 761 = .ok (.aload_n 2, 1) := by decide +kernel
theorem dL_law_762 : decode cL_law 762 = .ok (.invokevirtual 113, 3) := by decide +kernel
theorem dL_law_765 : decode cL_law 765 = .ok (.if_icmp .eq 28, 3) := by decide +kernel
theorem dL_law_768 : decode cL_law 768 = .ok (.iconst 0, 1) := by decide +kernel
theorem dL_law_769 : decode cL_law 769 = .ok (.ireturn, 1) := by decide +kernel
theorem dL_law_770 : decode cL_law 770 = .ok (.aload_n 1, 1) := by decide +kernel
theorem dL_law_771 : decode cL_law 771 = .ok (.aload_n 0, 1) := by decide +kernel
theorem dL_law_772 : decode cL_law 772 = .ok (.iload_n 3, 1) := by decide +kernel
theorem dL_law_773 : decode cL_law 773 = .ok (.iconst 1, 1) := by decide +kernel
theorem dL_law_774 : decode cL_law 774 = .ok (.iadd, 1) := by decide +kernel
theorem dL_law_775 : decode cL_law 775 = .ok (.iaload, 1) := by decide +kernel
theorem dL_law_776 : decode cL_law 776 = .ok (.invokevirtual 114, 3) := by decide +kernel
theorem dL_law_779 : decode cL_law 779 = .ok (.aload_n 2, 1) := by decide +kernel
theorem dL_law_780 : decode cL_law 780 = .ok (.aload_n 0, 1) := by decide +kernel
theorem dL_law_781 : decode cL_law 781 = .ok (.iload_n 3, 1) := by decide +kernel
theorem dL_law_782 : decode cL_law 782 = .ok (.iconst 1, 1) := by decide +kernel
theorem dL_law_783 : decode cL_law 783 = .ok (.iadd, 1) := by decide +kernel
theorem dL_law_784 : decode cL_law 784 = .ok (.iaload, 1) := by decide +kernel
theorem dL_law_785 : decode cL_law 785 = .ok (.invokevirtual 117, 3) := by decide +kernel
theorem dL_law_788 : decode cL_law 788 = .ok (.if_icmp .eq 5, 3) := by decide +kernel
theorem dL_law_791 : decode cL_law 791 = .ok (.iconst 0, 1) := by decide +kernel
theorem dL_law_792 : decode cL_law 792 = .ok (.ireturn, 1) := by decide +kernel
theorem dL_law_793 : decode cL_law 793 = .ok (.iinc 3 5, 3) := by decide +kernel
theorem dL_law_796 : decode cL_law 796 = .ok (.goto (-778), 3) := by decide +kernel
theorem dL_law_799 : decode cL_law 799 = .ok (.iconst 1, 1) := by decide +kernel
theorem dL_law_800 : decode cL_law 800 = .ok (.ireturn, 1) := by decide +kernel
