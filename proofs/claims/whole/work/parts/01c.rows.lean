set_option maxRecDepth 20000 in
theorem ggX7_init_X5_init : GoodIn wsX7_init wsX5_init := goodIn_r _ [38, 39, 2, 3, 29, 40, 41, 42, 43, 44, 91, 92, 93, 94, 95] (by decide +kernel) (by decide +kernel)
set_option maxRecDepth 20000 in
theorem gX7_init_X5_init_n9 : GoodIn wsX7_init (wsX5_init) := ggX7_init_X5_init
set_option maxRecDepth 20000 in
theorem ggX7_init_X1_init : GoodIn wsX7_init wsX1_init := goodIn_r _ [46, 47, 2, 3, 29, 48, 49, 50, 51, 52, 53, 107, 108, 109, 110, 111, 112] (by decide +kernel) (by decide +kernel)
set_option maxRecDepth 20000 in
theorem gX7_init_X1_init_n18 : GoodIn wsX7_init (wsX1_init) := ggX7_init_X1_init
set_option maxRecDepth 20000 in
theorem ggX7_init_X4_init : GoodIn wsX7_init wsX4_init := goodIn_r _ [56, 57, 2, 3, 58, 59, 60, 61, 9, 10, 45, 46, 47, 29, 48, 49, 50, 51, 52, 53, 113, 114, 115, 107, 108, 109, 110, 111, 112] (by decide +kernel) (by decide +kernel)
set_option maxRecDepth 20000 in
theorem gX7_init_X4_init : GoodIn wsX7_init (wsX4_init) := ggX7_init_X4_init
set_option maxRecDepth 20000 in
theorem ggX7_init_X3_init : GoodIn wsX7_init wsX3_init := goodIn_r _ [63, 64, 2, 3, 65, 9, 10, 66, 67, 68, 45, 46, 47, 29, 48, 49, 50, 51, 52, 53, 107, 108, 109, 110, 111, 112, 116, 117, 118] (by decide +kernel) (by decide +kernel)
set_option maxRecDepth 20000 in
theorem gX7_init_X3_init_n32 : GoodIn wsX7_init (wsX3_init) := ggX7_init_X3_init
set_option maxRecDepth 20000 in
theorem ggX7_init_X6_init : GoodIn wsX7_init wsX6_init := goodIn_r _ [70, 71, 2, 3, 29, 72, 73, 74, 119, 120, 121] (by decide +kernel) (by decide +kernel)
set_option maxRecDepth 20000 in
theorem gX7_init_X6_init_n42 : GoodIn wsX7_init (wsX6_init) := ggX7_init_X6_init
set_option maxRecDepth 20000 in
theorem ggX7_init_X0_init : GoodIn wsX7_init wsX0_init := goodIn_r _ [76, 77, 2, 3, 29, 78, 79, 80, 122, 123, 124] (by decide +kernel) (by decide +kernel)
set_option maxRecDepth 20000 in
theorem gX7_init_X0_init_n49 : GoodIn wsX7_init (wsX0_init) := ggX7_init_X0_init
set_option maxRecDepth 20000 in
theorem ggX7_init_X2_init : GoodIn wsX7_init wsX2_init := goodIn_r _ [82, 83, 2, 3, 29, 84, 85, 86, 87, 88, 89, 90, 125, 126, 127, 128, 129, 130, 131, 132, 133, 134] (by decide +kernel) (by decide +kernel)
set_option maxRecDepth 20000 in
theorem gX7_init_X2_init_n60 : GoodIn wsX7_init (wsX2_init) := ggX7_init_X2_init
theorem dX7_init_0 : decode cX7_init 0 = .ok (.aload_n 0, 1) := by decide +kernel
theorem dX7_init_1 : decode cX7_init 1 = .ok (.invokespecial 1, 3) := by decide +kernel
theorem dX7_init_4 : decode cX7_init 4 = .ok (.aload_n 0, 1) := by decide +kernel
theorem dX7_init_5 : decode cX7_init 5 = .ok (.new 7, 3) := by decide +kernel
theorem dX7_init_8 : decode cX7_init 8 = .ok (.dup, 1) := by decide +kernel
theorem dX7_init_9 : decode cX7_init 9 = .ok (.invokespecial 9, 3) := by decide +kernel
theorem dX7_init_12 : decode cX7_init 12 = .ok (.putfield 10, 3) := by decide +kernel
theorem dX7_init_15 : decode cX7_init 15 = .ok (.aload_n 0, 1) := by decide +kernel
theorem dX7_init_16 : decode cX7_init 16 = .ok (.new 16, 3) := by decide +kernel
theorem dX7_init_19 : decode cX7_init 19 = .ok (.dup, 1) := by decide +kernel
theorem dX7_init_20 : decode cX7_init 20 = .ok (.invokespecial 18, 3) := by decide +kernel
theorem dX7_init_23 : decode cX7_init 23 = .ok (.putfield 19, 3) := by decide +kernel
theorem dX7_init_26 : decode cX7_init 26 = .ok (.aload_n 0, 1) := by decide +kernel
theorem dX7_init_27 : decode cX7_init 27 = .ok (.new 23, 3) := by decide +kernel
theorem dX7_init_30 : decode cX7_init 30 = .ok (.dup, 1) := by decide +kernel
theorem dX7_init_31 : decode cX7_init 31 = .ok (.invokespecial 25, 3) := by decide +kernel
theorem dX7_init_34 : decode cX7_init 34 = .ok (.putfield 26, 3) := by decide +kernel
theorem dX7_init_37 : decode cX7_init 37 = .ok (.aload_n 0, 1) := by decide +kernel
theorem dX7_init_38 : decode cX7_init 38 = .ok (.new 30, 3) := by decide +kernel
theorem dX7_init_41 : decode cX7_init 41 = .ok (.dup, 1) := by decide +kernel
theorem dX7_init_42 : decode cX7_init 42 = .ok (.invokespecial 32, 3) := by decide +kernel
theorem dX7_init_45 : decode cX7_init 45 = .ok (.putfield 33, 3) := by decide +kernel
theorem dX7_init_48 : decode cX7_init 48 = .ok (.aload_n 0, 1) := by decide +kernel
theorem dX7_init_49 : decode cX7_init 49 = .ok (.new 30, 3) := by decide +kernel
theorem dX7_init_52 : decode cX7_init 52 = .ok (.dup, 1) := by decide +kernel
theorem dX7_init_53 : decode cX7_init 53 = .ok (.invokespecial 32, 3) := by decide +kernel
theorem dX7_init_56 : decode cX7_init 56 = .ok (.putfield 37, 3) := by decide +kernel
theorem dX7_init_59 : decode cX7_init 59 = .ok (.aload_n 0, 1) := by decide +kernel
theorem dX7_init_60 : decode cX7_init 60 = .ok (.new 40, 3) := by decide +kernel
theorem dX7_init_63 : decode cX7_init 63 = .ok (.dup, 1) := by decide +kernel
theorem dX7_init_64 : decode cX7_init 64 = .ok (.invokespecial 42, 3) := by decide +kernel
theorem dX7_init_67 : decode cX7_init 67 = .ok (.putfield 43, 3) := by decide +kernel
theorem dX7_init_70 : decode cX7_init 70 = .ok (.aload_n 0, 1) := by decide +kernel
theorem dX7_init_71 : decode cX7_init 71 = .ok (.new 47, 3) := by decide +kernel
theorem dX7_init_74 : decode cX7_init 74 = .ok (.dup, 1) := by decide +kernel
theorem dX7_init_75 : decode cX7_init 75 = .ok (.invokespecial 49, 3) := by decide +kernel
theorem dX7_init_78 : decode cX7_init 78 = .ok (.putfield 50, 3) := by decide +kernel
theorem dX7_init_81 : decode cX7_init 81 = .ok (.aload_n 0, 1) := by decide +kernel
theorem dX7_init_82 : decode cX7_init 82 = .ok (.bipush 6, 2) := by decide +kernel
theorem dX7_init_84 : decode cX7_init 84 = .ok (.newarray .int, 2) := by decide +kernel
theorem dX7_init_86 : decode cX7_init 86 = .ok (.putfield 54, 3) := by decide +kernel
theorem dX7_init_89 : decode cX7_init 89 = .ok (.aload_n 0, 1) := by decide +kernel
theorem dX7_init_90 : decode cX7_init 90 = .ok (.new 58, 3) := by decide +kernel
theorem dX7_init_93 : decode cX7_init 93 = .ok (.dup, 1) := by decide +kernel
theorem dX7_init_94 : decode cX7_init 94 = .ok (.invokespecial 60, 3) := by decide +kernel
theorem dX7_init_97 : decode cX7_init 97 = .ok (.putfield 61, 3) := by decide +kernel
theorem dX7_init_100 : decode cX7_init 100 = .ok (.aload_n 0, 1) := by decide +kernel
theorem dX7_init_101 : decode cX7_init 101 = .ok (.new 58, 3) := by decide +kernel
theorem dX7_init_104 : decode cX7_init 104 = .ok (.dup, 1) := by decide +kernel
theorem dX7_init_105 : decode cX7_init 105 = .ok (.invokespecial 60, 3) := by decide +kernel
theorem dX7_init_108 : decode cX7_init 108 = .ok (.putfield 65, 3) := by decide +kernel
theorem dX7_init_111 : decode cX7_init 111 = .ok (.aload_n 0, 1) := by decide +kernel
theorem dX7_init_112 : decode cX7_init 112 = .ok (.iconst 0, 1) := by decide +kernel
theorem dX7_init_113 : decode cX7_init 113 = .ok (.putfield 68, 3) := by decide +kernel
theorem dX7_init_116 : decode cX7_init 116 = .ok (.return_, 1) := by decide +kernel
set_option maxRecDepth 20000 in
theorem ggX7_feed_X7_within : GoodIn wsX7_feed wsX7_within := goodIn_r _ [8] (by decide +kernel) (by decide +kernel)
set_option maxRecDepth 20000 in
theorem gX7_feed_X7_within : GoodIn wsX7_feed (va_wsS RX7 72 yX7_within wsX7_within) := goodIn_app (goodIn_of _ (by decide +kernel)) ggX7_feed_X7_within
set_option maxRecDepth 20000 in
theorem ggX7_feed_X5_append : GoodIn wsX7_feed wsX5_append := goodIn_r _ [13, 14, 15, 16, 7, 17, 29, 30, 31, 32, 33] (by decide +kernel) (by decide +kernel)
set_option maxRecDepth 20000 in
theorem gX7_feed_X5_append : GoodIn wsX7_feed (wsV RX7 77 RX5 yX5_append wsX5_append) := goodIn_app (goodIn_of _ (by decide +kernel)) ggX7_feed_X5_append
theorem dX7_feed_0 : decode cX7_feed 0 = .ok (.iload_n 1, 1) := by decide +kernel
theorem dX7_feed_1 : decode cX7_feed 1 = .ok (.iconst 0, 1) := by decide +kernel
theorem dX7_feed_2 : decode cX7_feed 2 = .ok (.sipush 255, 3) := by decide +kernel
theorem dX7_feed_5 : decode cX7_feed 5 = .ok (.invokestatic 72, 3) := by decide +kernel
theorem dX7_feed_8 : decode cX7_feed 8 = .ok (.ifCond .ne 6, 3) := by decide +kernel
theorem dX7_feed_11 : decode cX7_feed 11 = .ok (.ldc 76, 2) := by decide +kernel
theorem dX7_feed_13 : decode cX7_feed 13 = .ok (.ireturn, 1) := by decide +kernel
theorem dX7_feed_14 : decode cX7_feed 14 = .ok (.aload_n 0, 1) := by decide +kernel
theorem dX7_feed_15 : decode cX7_feed 15 = .ok (.getfield 10, 3) := by decide +kernel
theorem dX7_feed_18 : decode cX7_feed 18 = .ok (.iload_n 1, 1) := by decide +kernel
theorem dX7_feed_19 : decode cX7_feed 19 = .ok (.invokevirtual 77, 3) := by decide +kernel
theorem dX7_feed_22 : decode cX7_feed 22 = .ok (.ifCond .eq 13, 3) := by decide +kernel
theorem dX7_feed_25 : decode cX7_feed 25 = .ok (.aload_n 0, 1) := by decide +kernel
theorem dX7_feed_26 : decode cX7_feed 26 = .ok (.getfield 10, 3) := by decide +kernel
theorem dX7_feed_29 : decode cX7_feed 29 = .ok (.getfield 81, 3) := by decide +kernel
theorem dX7_feed_32 : decode cX7_feed 32 = .ok (.goto 5, 3) := by decide +kernel
theorem dX7_feed_35 : decode cX7_feed 35 = .ok (.ldc 84, 2) := by decide +kernel
theorem dX7_feed_37 : decode cX7_feed 37 = .ok (.ireturn, 1) := by decide +kernel
set_option maxRecDepth 20000 in
theorem ggX7_court_X5_readInto : GoodIn wsX7_court wsX5_readInto := goodIn_r _ [18, 19, 20, 21, 22, 23, 24, 25, 26, 27, 28, 29, 30, 31, 32, 33, 34, 35, 36, 37, 38, 39, 17, 40, 41, 42, 43, 44, 45, 46, 47, 48, 49, 50, 51, 52, 53, 54, 55, 56, 57, 58, 59, 60, 61, 62, 63, 64, 65, 66, 67, 68, 69, 70, 71, 72, 73, 74, 75, 76, 77, 78, 79, 80, 81, 82, 83, 84, 85, 86, 87, 88, 89, 90, 91, 92, 93, 94, 95, 96, 150, 151, 152, 153, 154, 140, 141, 142, 143, 144, 145, 146, 147, 148, 149] (by decide +kernel) (by decide +kernel)
set_option maxRecDepth 20000 in
theorem gX7_court_X5_readInto : GoodIn wsX7_court (wsV RX7 85 RX5 yX5_readInto wsX5_readInto) := goodIn_app (goodIn_of _ (by decide +kernel)) ggX7_court_X5_readInto
set_option maxRecDepth 20000 in
theorem ggX7_court_X1_begin : GoodIn wsX7_court wsX1_begin := goodIn_r _ [101, 102, 103, 104, 105, 106, 107, 108, 109, 110, 111, 100, 112, 113, 42, 35, 43, 34, 36, 140, 141, 142, 143, 144, 145, 146, 147, 148, 149, 155, 156, 157, 158, 159, 160] (by decide +kernel) (by decide +kernel)
set_option maxRecDepth 20000 in
theorem gX7_court_X1_begin : GoodIn wsX7_court (wsV RX7 89 RX1 yX1_begin wsX1_begin) := goodIn_app (goodIn_of _ (by decide +kernel)) ggX7_court_X1_begin
set_option maxRecDepth 20000 in
theorem ggX7_court_X4_forget : GoodIn wsX7_court wsX4_forget := goodIn_r _ [118, 119, 161, 162, 163] (by decide +kernel) (by decide +kernel)
set_option maxRecDepth 20000 in
theorem gX7_court_X4_forget : GoodIn wsX7_court (wsV RX7 93 RX4 yX4_forget wsX4_forget) := goodIn_app (goodIn_of _ (by decide +kernel)) ggX7_court_X4_forget
theorem dX7_court_0 : decode cX7_court 0 = .ok (.aload_n 0, 1) := by decide +kernel
theorem dX7_court_1 : decode cX7_court 1 = .ok (.getfield 10, 3) := by decide +kernel
theorem dX7_court_4 : decode cX7_court 4 = .ok (.aload_n 0, 1) := by decide +kernel
theorem dX7_court_5 : decode cX7_court 5 = .ok (.getfield 65, 3) := by decide +kernel
theorem dX7_court_8 : decode cX7_court 8 = .ok (.invokevirtual 85, 3) := by decide +kernel
theorem dX7_court_11 : decode cX7_court 11 = .ok (.istore_n 1, 1) := by decide +kernel
theorem dX7_court_12 : decode cX7_court 12 = .ok (.iload_n 1, 1) := by decide +kernel
theorem dX7_court_13 : decode cX7_court 13 = .ok (.ifCond .eq 8, 3) := by decide +kernel
theorem dX7_court_16 : decode cX7_court 16 = .ok (.bipush (-10), 2) := by decide +kernel
theorem dX7_court_18 : decode cX7_court 18 = .ok (.iload_n 1, 1) := by decide +kernel
theorem dX7_court_19 : decode cX7_court 19 = .ok (.isub, 1) := by decide +kernel
theorem dX7_court_20 : decode cX7_court 20 = .ok (.ireturn, 1) := by decide +kernel
theorem dX7_court_21 : decode cX7_court 21 = .ok (.aload_n 0, 1) := by decide +kernel
theorem dX7_court_22 : decode cX7_court 22 = .ok (.getfield 65, 3) := by decide +kernel
theorem dX7_court_25 : decode cX7_court 25 = .ok (.astore_n 2, 1) := by decide +kernel
theorem dX7_court_26 : decode cX7_court 26 = .ok (.aload_n 0, 1) := by decide +kernel
theorem dX7_court_27 : decode cX7_court 27 = .ok (.aload_n 0, 1) := by decide +kernel
theorem dX7_court_28 : decode cX7_court 28 = .ok (.getfield 61, 3) := by decide +kernel
theorem dX7_court_31 : decode cX7_court 31 = .ok (.putfield 65, 3) := by decide +kernel
theorem dX7_court_34 : decode cX7_court 34 = .ok (.aload_n 0, 1) := by decide +kernel
theorem dX7_court_35 : decode cX7_court 35 = .ok (.aload_n 2, 1) := by decide +kernel
theorem dX7_court_36 : decode cX7_court 36 = .ok (.putfield 61, 3) := by decide +kernel
theorem dX7_court_39 : decode cX7_court 39 = .ok (.aload_n 0, 1) := by decide +kernel
theorem dX7_court_40 : decode cX7_court 40 = .ok (.getfield 19, 3) := by decide +kernel
theorem dX7_court_43 : decode cX7_court 43 = .ok (.aload_n 0, 1) := by decide +kernel
theorem dX7_court_44 : decode cX7_court 44 = .ok (.getfield 61, 3) := by decide +kernel
theorem dX7_court_47 : decode cX7_court 47 = .ok (.invokevirtual 89, 3) := by decide +kernel
theorem dX7_court_50 : decode cX7_court 50 = .ok (.aload_n 0, 1) := by decide +kernel
theorem dX7_court_51 : decode cX7_court 51 = .ok (.getfield 26, 3) := by decide +kernel
theorem dX7_court_54 : decode cX7_court 54 = .ok (.invokevirtual 93, 3) := by decide +kernel
theorem dX7_court_57 : decode cX7_court 57 = .ok (.aload_n 0, 1) := by decide +kernel
theorem dX7_court_58 : decode cX7_court 58 = .ok (.getfield 33, 3) := by decide +kernel
theorem dX7_court_61 : decode cX7_court 61 = .ok (.iconst 0, 1) := by decide +kernel
theorem dX7_court_62 : decode cX7_court 62 = .ok (.putfield 96, 3) := by decide +kernel
theorem dX7_court_65 : decode cX7_court 65 = .ok (.aload_n 0, 1) := by decide +kernel
theorem dX7_court_66 : decode cX7_court 66 = .ok (.getfield 37, 3) := by decide +kernel
theorem dX7_court_69 : decode cX7_court 69 = .ok (.iconst 0, 1) := by decide +kernel
theorem dX7_court_70 : decode cX7_court 70 = .ok (.putfield 96, 3) := by decide +kernel
theorem dX7_court_73 : decode cX7_court 73 = .ok (.aload_n 0, 1) := by decide +kernel
theorem dX7_court_74 : decode cX7_court 74 = .ok (.getfield 43, 3) := by decide +kernel
theorem dX7_court_77 : decode cX7_court 77 = .ok (.iconst 0, 1) := by decide +kernel
theorem dX7_court_78 : decode cX7_court 78 = .ok (.putfield 100, 3) := by decide +kernel
theorem dX7_court_81 : decode cX7_court 81 = .ok (.aload_n 0, 1) := by decide +kernel
theorem dX7_court_82 : decode cX7_court 82 = .ok (.getfield 50, 3) := by decide +kernel
theorem dX7_court_85 : decode cX7_court 85 = .ok (.iconst 0, 1) := by decide +kernel
theorem dX7_court_86 : decode cX7_court 86 = .ok (.putfield 103, 3) := by decide +kernel
theorem dX7_court_89 : decode cX7_court 89 = .ok (.aload_n 0, 1) := by decide +kernel
theorem dX7_court_90 : decode cX7_court 90 = .ok (.getfield 61, 3) := by decide +kernel
theorem dX7_court_93 : decode cX7_court 93 = .ok (.getfield 104, 3) := by decide +kernel
theorem dX7_court_96 : decode cX7_court 96 = .ok (.ireturn, 1) := by decide +kernel
theorem dX7_fault_0 : decode cX7_fault 0 = .ok (.aload_n 0, 1) := by decide +kernel
theorem dX7_fault_1 : decode cX7_fault 1 = .ok (.getfield 10, 3) := by decide +kernel
theorem dX7_fault_4 : decode cX7_fault 4 = .ok (.getfield 107, 3) := by decide +kernel
theorem dX7_fault_7 : decode cX7_fault 7 = .ok (.ireturn, 1) := by decide +kernel
set_option maxRecDepth 20000 in
theorem ggX7_told_X1_seenOn : GoodIn wsX7_told wsX1_seenOn := goodIn_r _ [23, 24, 25, 26, 27, 28, 29, 30, 31, 32, 33, 34, 35, 36, 37, 38, 39, 40, 41, 42, 43, 44, 45, 46, 47, 48, 49, 50, 22, 51, 52, 53, 54, 55, 56, 57, 58, 59, 60, 61, 62, 63, 64, 65, 77, 78, 79, 80, 81, 82, 83, 84, 85, 86, 87, 88, 89, 90, 91, 92] (by decide +kernel) (by decide +kernel)
set_option maxRecDepth 20000 in
theorem gX7_told_X1_seenOn : GoodIn wsX7_told (wsV RX7 124 RX1 yX1_seenOn wsX1_seenOn) := goodIn_app (goodIn_of _ (by decide +kernel)) ggX7_told_X1_seenOn
theorem dX7_told_0 : decode cX7_told 0 = .ok (.iload_n 1, 1) := by decide +kernel
theorem dX7_told_1 : decode cX7_told 1 = .ok (.tableswitch 170 0 11 #[63, 71, 79, 87, 95, 103, 111, 119, 138, 146, 154, 162], 63) := by decide +kernel
theorem dX7_told_64 : decode cX7_told 64 = .ok (.aload_n 0, 1) := by decide +kernel
theorem dX7_told_65 : decode cX7_told 65 = .ok (.getfield 61, 3) := by decide +kernel
theorem dX7_told_68 : decode cX7_told 68 = .ok (.getfield 110, 3) := by decide +kernel
theorem dX7_told_71 : decode cX7_told 71 = .ok (.ireturn, 1) := by decide +kernel
theorem dX7_told_72 : decode cX7_told 72 = .ok (.aload_n 0, 1) := by decide +kernel
theorem dX7_told_73 : decode cX7_told 73 = .ok (.getfield 19, 3) := by decide +kernel
theorem dX7_told_76 : decode cX7_told 76 = .ok (.getfield 113, 3) := by decide +kernel
theorem dX7_told_79 : decode cX7_told 79 = .ok (.ireturn, 1) := by decide +kernel
theorem dX7_told_80 : decode cX7_told 80 = .ok (.aload_n 0, 1) := by decide +kernel
theorem dX7_told_81 : decode cX7_told 81 = .ok (.getfield 61, 3) := by decide +kernel
theorem dX7_told_84 : decode cX7_told 84 = .ok (.getfield 114, 3) := by decide +kernel
theorem dX7_told_87 : decode cX7_told 87 = .ok (.ireturn, 1) := by decide +kernel
theorem dX7_told_88 : decode cX7_told 88 = .ok (.aload_n 0, 1) := by decide +kernel
theorem dX7_told_89 : decode cX7_told 89 = .ok (.getfield 10, 3) := by decide +kernel
theorem dX7_told_92 : decode cX7_told 92 = .ok (.getfield 81, 3) := by decide +kernel
theorem dX7_told_95 : decode cX7_told 95 = .ok (.ireturn, 1) := by decide +kernel
theorem dX7_told_96 : decode cX7_told 96 = .ok (.aload_n 0, 1) := by decide +kernel
theorem dX7_told_97 : decode cX7_told 97 = .ok (.getfield 19, 3) := by decide +kernel
theorem dX7_told_100 : decode cX7_told 100 = .ok (.getfield 117, 3) := by decide +kernel
theorem dX7_told_103 : decode cX7_told 103 = .ok (.ireturn, 1) := by decide +kernel
theorem dX7_told_104 : decode cX7_told 104 = .ok (.aload_n 0, 1) := by decide +kernel
theorem dX7_told_105 : decode cX7_told 105 = .ok (.getfield 19, 3) := by decide +kernel
theorem dX7_told_108 : decode cX7_told 108 = .ok (.getfield 118, 3) := by decide +kernel
theorem dX7_told_111 : decode cX7_told 111 = .ok (.ireturn, 1) := by decide +kernel
theorem dX7_told_112 : decode cX7_told 112 = .ok (.aload_n 0, 1) := by decide +kernel
theorem dX7_told_113 : decode cX7_told 113 = .ok (.getfield 19, 3) := by decide +kernel
theorem dX7_told_116 : decode cX7_told 116 = .ok (.getfield 121, 3) := by decide +kernel
theorem dX7_told_119 : decode cX7_told 119 = .ok (.ireturn, 1) := by decide +kernel
theorem dX7_told_120 : decode cX7_told 120 = .ok (.aload_n 0, 1) := by decide +kernel
theorem dX7_told_121 : decode cX7_told 121 = .ok (.getfield 19, 3) := by decide +kernel
theorem dX7_told_124 : decode cX7_told 124 = .ok (.aload_n 0, 1) := by decide +kernel
theorem dX7_told_125 : decode cX7_told 125 = .ok (.getfield 61, 3) := by decide +kernel
theorem dX7_told_128 : decode cX7_told 128 = .ok (.aload_n 0, 1) := by decide +kernel
theorem dX7_told_129 : decode cX7_told 129 = .ok (.getfield 19, 3) := by decide +kernel
theorem dX7_told_132 : decode cX7_told 132 = .ok (.getfield 117, 3) := by decide +kernel
theorem dX7_told_135 : decode cX7_told 135 = .ok (.invokevirtual 124, 3) := by decide +kernel
theorem dX7_told_138 : decode cX7_told 138 = .ok (.ireturn, 1) := by decide +kernel
theorem dX7_told_139 : decode cX7_told 139 = .ok (.aload_n 0, 1) := by decide +kernel
theorem dX7_told_140 : decode cX7_told 140 = .ok (.getfield 19, 3) := by decide +kernel
theorem dX7_told_143 : decode cX7_told 143 = .ok (.getfield 128, 3) := by decide +kernel
theorem dX7_told_146 : decode cX7_told 146 = .ok (.ireturn, 1) := by decide +kernel
theorem dX7_told_147 : decode cX7_told 147 = .ok (.aload_n 0, 1) := by decide +kernel
theorem dX7_told_148 : decode cX7_told 148 = .ok (.getfield 43, 3) := by decide +kernel
theorem dX7_told_151 : decode cX7_told 151 = .ok (.getfield 100, 3) := by decide +kernel
theorem dX7_told_154 : decode cX7_told 154 = .ok (.ireturn, 1) := by decide +kernel
theorem dX7_told_155 : decode cX7_told 155 = .ok (.aload_n 0, 1) := by decide +kernel
theorem dX7_told_156 : decode cX7_told 156 = .ok (.getfield 50, 3) := by decide +kernel
theorem dX7_told_159 : decode cX7_told 159 = .ok (.getfield 103, 3) := by decide +kernel
theorem dX7_told_162 : decode cX7_told 162 = .ok (.ireturn, 1) := by decide +kernel
theorem dX7_told_163 : decode cX7_told 163 = .ok (.aload_n 0, 1) := by decide +kernel
theorem dX7_told_164 : decode cX7_told 164 = .ok (.getfield 26, 3) := by decide +kernel
theorem dX7_told_167 : decode cX7_told 167 = .ok (.getfield 131, 3) := by decide +kernel
theorem dX7_told_170 : decode cX7_told 170 = .ok (.ireturn, 1) := by decide +kernel
theorem dX7_told_171 : decode cX7_told 171 = .ok (.ldc 76, 2) := by decide +kernel
theorem dX7_told_173 : decode cX7_told 173 = .ok (.ireturn, 1) := by decide +kernel
set_option maxRecDepth 20000 in
theorem ggX7_person_X1_has : GoodIn wsX7_person wsX1_has := goodIn_r _ [14, 15, 86, 87, 88, 89, 90, 91] (by decide +kernel) (by decide +kernel)
set_option maxRecDepth 20000 in
theorem gX7_person_X1_has : GoodIn wsX7_person (wsV RX7 132 RX1 yX1_has wsX1_has) := goodIn_app (goodIn_of _ (by decide +kernel)) ggX7_person_X1_has
set_option maxRecDepth 20000 in
theorem ggX7_person_X7_at : GoodIn wsX7_person wsX7_at := goodIn_r _ [19] (by decide +kernel) (by decide +kernel)
set_option maxRecDepth 20000 in
theorem gX7_person_X7_at : GoodIn wsX7_person (va_wsS RX7 139 yX7_at wsX7_at) := goodIn_app (goodIn_of _ (by decide +kernel)) ggX7_person_X7_at
set_option maxRecDepth 20000 in
theorem ggX7_person_X1_lives : GoodIn wsX7_person wsX1_lives := goodIn_r _ [23, 24, 25, 18, 26, 86, 87, 88, 89, 90, 91] (by decide +kernel) (by decide +kernel)
set_option maxRecDepth 20000 in
theorem gX7_person_X1_lives : GoodIn wsX7_person (wsV RX7 152 RX1 yX1_lives wsX1_lives) := goodIn_app (goodIn_of _ (by decide +kernel)) ggX7_person_X1_lives
set_option maxRecDepth 20000 in
theorem ggX7_person_X1_aheadOf : GoodIn wsX7_person wsX1_aheadOf := goodIn_r _ [30, 24, 31, 32, 33, 34, 35, 36, 37, 86, 87, 88, 89, 90, 91] (by decide +kernel) (by decide +kernel)
set_option maxRecDepth 20000 in
theorem gX7_person_X1_aheadOf : GoodIn wsX7_person (wsV RX7 155 RX1 yX1_aheadOf wsX1_aheadOf) := goodIn_app (goodIn_of _ (by decide +kernel)) ggX7_person_X1_aheadOf
set_option maxRecDepth 20000 in
theorem ggX7_person_X2_payAt : GoodIn wsX7_person wsX2_payAt := goodIn_r _ [42, 43, 92, 93, 94, 95, 96, 97, 98, 99, 100, 101] (by decide +kernel) (by decide +kernel)
set_option maxRecDepth 20000 in
theorem gX7_person_X2_payAt : GoodIn wsX7_person (wsV RX7 159 RX2 yX2_payAt wsX2_payAt) := goodIn_app (goodIn_of _ (by decide +kernel)) ggX7_person_X2_payAt
set_option maxRecDepth 20000 in
theorem ggX7_person_X2_goesOutOn : GoodIn wsX7_person wsX2_goesOutOn := goodIn_r _ [47, 48, 49, 50, 41, 51, 52, 53, 54, 55, 56, 57, 17, 18, 19, 58, 59, 60, 61, 62, 63, 64, 65, 66, 67, 68, 69, 70, 71, 72, 73, 74, 25, 26, 92, 93, 94, 95, 96, 97, 98, 99, 100, 101] (by decide +kernel) (by decide +kernel)
set_option maxRecDepth 20000 in
theorem gX7_person_X2_goesOutOn : GoodIn wsX7_person (wsV RX7 162 RX2 yX2_goesOutOn wsX2_goesOutOn) := goodIn_app (goodIn_of _ (by decide +kernel)) ggX7_person_X2_goesOutOn
theorem dX7_person_0 : decode cX7_person 0 = .ok (.aload_n 0, 1) := by decide +kernel
theorem dX7_person_1 : decode cX7_person 1 = .ok (.getfield 19, 3) := by decide +kernel
theorem dX7_person_4 : decode cX7_person 4 = .ok (.iload_n 1, 1) := by decide +kernel
theorem dX7_person_5 : decode cX7_person 5 = .ok (.invokevirtual 132, 3) := by decide +kernel
theorem dX7_person_8 : decode cX7_person 8 = .ok (.ifCond .ne 6, 3) := by decide +kernel
theorem dX7_person_11 : decode cX7_person 11 = .ok (.ldc 135, 2) := by decide +kernel
theorem dX7_person_13 : decode cX7_person 13 = .ok (.ireturn, 1) := by decide +kernel
theorem dX7_person_14 : decode cX7_person 14 = .ok (.iload_n 2, 1) := by decide +kernel
theorem dX7_person_15 : decode cX7_person 15 = .ok (.tableswitch 168 0 6 #[41, 53, 65, 77, 89, 113, 144], 41) := by decide +kernel
theorem dX7_person_56 : decode cX7_person 56 = .ok (.aload_n 0, 1) := by decide +kernel
theorem dX7_person_57 : decode cX7_person 57 = .ok (.getfield 19, 3) := by decide +kernel
theorem dX7_person_60 : decode cX7_person 60 = .ok (.getfield 136, 3) := by decide +kernel
theorem dX7_person_63 : decode cX7_person 63 = .ok (.iload_n 1, 1) := by decide +kernel
theorem dX7_person_64 : decode cX7_person 64 = .ok (.invokestatic 139, 3) := by decide +kernel
theorem dX7_person_67 : decode cX7_person 67 = .ok (.ireturn, 1) := by decide +kernel
theorem dX7_person_68 : decode cX7_person 68 = .ok (.aload_n 0, 1) := by decide +kernel
theorem dX7_person_69 : decode cX7_person 69 = .ok (.getfield 61, 3) := by decide +kernel
theorem dX7_person_72 : decode cX7_person 72 = .ok (.getfield 143, 3) := by decide +kernel
theorem dX7_person_75 : decode cX7_person 75 = .ok (.iload_n 1, 1) := by decide +kernel
theorem dX7_person_76 : decode cX7_person 76 = .ok (.invokestatic 139, 3) := by decide +kernel
theorem dX7_person_79 : decode cX7_person 79 = .ok (.ireturn, 1) := by decide +kernel
theorem dX7_person_80 : decode cX7_person 80 = .ok (.aload_n 0, 1) := by decide +kernel
theorem dX7_person_81 : decode cX7_person 81 = .ok (.getfield 61, 3) := by decide +kernel
theorem dX7_person_84 : decode cX7_person 84 = .ok (.getfield 146, 3) := by decide +kernel
theorem dX7_person_87 : decode cX7_person 87 = .ok (.iload_n 1, 1) := by decide +kernel
theorem dX7_person_88 : decode cX7_person 88 = .ok (.invokestatic 139, 3) := by decide +kernel
theorem dX7_person_91 : decode cX7_person 91 = .ok (.ireturn, 1) := by decide +kernel
theorem dX7_person_92 : decode cX7_person 92 = .ok (.aload_n 0, 1) := by decide +kernel
theorem dX7_person_93 : decode cX7_person 93 = .ok (.getfield 61, 3) := by decide +kernel
theorem dX7_person_96 : decode cX7_person 96 = .ok (.getfield 149, 3) := by decide +kernel
theorem dX7_person_99 : decode cX7_person 99 = .ok (.iload_n 1, 1) := by decide +kernel
theorem dX7_person_100 : decode cX7_person 100 = .ok (.invokestatic 139, 3) := by decide +kernel
theorem dX7_person_103 : decode cX7_person 103 = .ok (.ireturn, 1) := by decide +kernel
theorem dX7_person_104 : decode cX7_person 104 = .ok (.aload_n 0, 1) := by decide +kernel
theorem dX7_person_105 : decode cX7_person 105 = .ok (.getfield 19, 3) := by decide +kernel
theorem dX7_person_108 : decode cX7_person 108 = .ok (.iload_n 1, 1) := by decide +kernel
theorem dX7_person_109 : decode cX7_person 109 = .ok (.invokevirtual 152, 3) := by decide +kernel
theorem dX7_person_112 : decode cX7_person 112 = .ok (.ifCond .eq 14, 3) := by decide +kernel
theorem dX7_person_115 : decode cX7_person 115 = .ok (.aload_n 0, 1) := by decide +kernel
theorem dX7_person_116 : decode cX7_person 116 = .ok (.getfield 19, 3) := by decide +kernel
theorem dX7_person_119 : decode cX7_person 119 = .ok (.iload_n 1, 1) := by decide +kernel
theorem dX7_person_120 : decode cX7_person 120 = .ok (.invokevirtual 155, 3) := by decide +kernel
theorem dX7_person_123 : decode cX7_person 123 = .ok (.goto 4, 3) := by decide +kernel
theorem dX7_person_126 : decode cX7_person 126 = .ok (.iconst (-1), 1) := by decide +kernel
theorem dX7_person_127 : decode cX7_person 127 = .ok (.ireturn, 1) := by decide +kernel
theorem dX7_person_128 : decode cX7_person 128 = .ok (.aload_n 0, 1) := by decide +kernel
theorem dX7_person_129 : decode cX7_person 129 = .ok (.getfield 19, 3) := by decide +kernel
theorem dX7_person_132 : decode cX7_person 132 = .ok (.iload_n 1, 1) := by decide +kernel
theorem dX7_person_133 : decode cX7_person 133 = .ok (.invokevirtual 152, 3) := by decide +kernel
theorem dX7_person_136 : decode cX7_person 136 = .ok (.ifCond .eq 21, 3) := by decide +kernel
theorem dX7_person_139 : decode cX7_person 139 = .ok (.aload_n 0, 1) := by decide +kernel
theorem dX7_person_140 : decode cX7_person 140 = .ok (.getfield 61, 3) := by decide +kernel
theorem dX7_person_143 : decode cX7_person 143 = .ok (.aload_n 0, 1) := by decide +kernel
theorem dX7_person_144 : decode cX7_person 144 = .ok (.getfield 19, 3) := by decide +kernel
theorem dX7_person_147 : decode cX7_person 147 = .ok (.iload_n 1, 1) := by decide +kernel
theorem dX7_person_148 : decode cX7_person 148 = .ok (.invokevirtual 155, 3) := by decide +kernel
theorem dX7_person_151 : decode cX7_person 151 = .ok (.invokevirtual 159, 3) := by decide +kernel
theorem dX7_person_154 : decode cX7_person 154 = .ok (.goto 4, 3) := by decide +kernel
theorem dX7_person_157 : decode cX7_person 157 = .ok (.iconst 0, 1) := by decide +kernel
theorem dX7_person_158 : decode cX7_person 158 = .ok (.ireturn, 1) := by decide +kernel
theorem dX7_person_159 : decode cX7_person 159 = .ok (.aload_n 0, 1) := by decide +kernel
theorem dX7_person_160 : decode cX7_person 160 = .ok (.getfield 61, 3) := by decide +kernel
theorem dX7_person_163 : decode cX7_person 163 = .ok (.iload_n 1, 1) := by decide +kernel
theorem dX7_person_164 : decode cX7_person 164 = .ok (.aload_n 0, 1) := by decide +kernel
theorem dX7_person_165 : decode cX7_person 165 = .ok (.getfield 19, 3) := by decide +kernel
theorem dX7_person_168 : decode cX7_person 168 = .ok (.getfield 117, 3) := by decide +kernel
theorem dX7_person_171 : decode cX7_person 171 = .ok (.invokevirtual 162, 3) := by decide +kernel
theorem dX7_person_174 : decode cX7_person 174 = .ok (.ifCond .eq 7, 3) := by decide +kernel
theorem dX7_person_177 : decode cX7_person 177 = .ok (.iconst 1, 1) := by decide +kernel
theorem dX7_person_178 : decode cX7_person 178 = .ok (.goto 4, 3) := by decide +kernel
theorem dX7_person_181 : decode cX7_person 181 = .ok (.iconst 0, 1) := by decide +kernel
theorem dX7_person_182 : decode cX7_person 182 = .ok (.ireturn, 1) := by decide +kernel
theorem dX7_person_183 : decode cX7_person 183 = .ok (.ldc 76, 2) := by decide +kernel
theorem dX7_person_185 : decode cX7_person 185 = .ok (.ireturn, 1) := by decide +kernel
set_option maxRecDepth 20000 in
theorem ggX7_dayTold_X2_hasDay : GoodIn wsX7_dayTold wsX2_hasDay := goodIn_r _ [8, 9, 43, 44, 45, 46, 47, 48, 49, 50, 51, 52] (by decide +kernel) (by decide +kernel)
set_option maxRecDepth 20000 in
theorem gX7_dayTold_X2_hasDay : GoodIn wsX7_dayTold (wsV RX7 166 RX2 yX2_hasDay wsX2_hasDay) := goodIn_app (goodIn_of _ (by decide +kernel)) ggX7_dayTold_X2_hasDay
set_option maxRecDepth 20000 in
theorem ggX7_dayTold_X2_weatherOn : GoodIn wsX7_dayTold wsX2_weatherOn := goodIn_r _ [13, 14, 15, 16, 17, 7, 18, 9, 19, 20, 21, 43, 44, 45, 46, 47, 48, 49, 50, 51, 52] (by decide +kernel) (by decide +kernel)
set_option maxRecDepth 20000 in
theorem gX7_dayTold_X2_weatherOn : GoodIn wsX7_dayTold (wsV RX7 169 RX2 yX2_weatherOn wsX2_weatherOn) := goodIn_app (goodIn_of _ (by decide +kernel)) ggX7_dayTold_X2_weatherOn
set_option maxRecDepth 20000 in
theorem ggX7_dayTold_X2_hourOn : GoodIn wsX7_dayTold wsX2_hourOn := goodIn_r _ [25, 26, 15, 16, 17, 7, 18, 9, 19, 20, 21, 43, 44, 45, 46, 47, 48, 49, 50, 51, 52] (by decide +kernel) (by decide +kernel)
set_option maxRecDepth 20000 in
theorem gX7_dayTold_X2_hourOn : GoodIn wsX7_dayTold (wsV RX7 172 RX2 yX2_hourOn wsX2_hourOn) := goodIn_app (goodIn_of _ (by decide +kernel)) ggX7_dayTold_X2_hourOn
set_option maxRecDepth 20000 in
theorem ggX7_dayTold_X2_dangerOn : GoodIn wsX7_dayTold wsX2_dangerOn := goodIn_r _ [30, 31, 15, 16, 17, 7, 18, 9, 19, 20, 21, 43, 44, 45, 46, 47, 48, 49, 50, 51, 52] (by decide +kernel) (by decide +kernel)
set_option maxRecDepth 20000 in
theorem gX7_dayTold_X2_dangerOn : GoodIn wsX7_dayTold (wsV RX7 175 RX2 yX2_dangerOn wsX2_dangerOn) := goodIn_app (goodIn_of _ (by decide +kernel)) ggX7_dayTold_X2_dangerOn
theorem dX7_dayTold_0 : decode cX7_dayTold 0 = .ok (.aload_n 0, 1) := by decide +kernel
theorem dX7_dayTold_1 : decode cX7_dayTold 1 = .ok (.getfield 61, 3) := by decide +kernel
theorem dX7_dayTold_4 : decode cX7_dayTold 4 = .ok (.iload_n 1, 1) := by decide +kernel
theorem dX7_dayTold_5 : decode cX7_dayTold 5 = .ok (.invokevirtual 166, 3) := by decide +kernel
theorem dX7_dayTold_8 : decode cX7_dayTold 8 = .ok (.ifCond .ne 6, 3) := by decide +kernel
theorem dX7_dayTold_11 : decode cX7_dayTold 11 = .ok (.ldc 135, 2) := by decide +kernel
theorem dX7_dayTold_13 : decode cX7_dayTold 13 = .ok (.ireturn, 1) := by decide +kernel
theorem dX7_dayTold_14 : decode cX7_dayTold 14 = .ok (.iload_n 2, 1) := by decide +kernel
theorem dX7_dayTold_15 : decode cX7_dayTold 15 = .ok (.tableswitch 52 0 2 #[25, 34, 43], 25) := by decide +kernel
theorem dX7_dayTold_40 : decode cX7_dayTold 40 = .ok (.aload_n 0, 1) := by decide +kernel
theorem dX7_dayTold_41 : decode cX7_dayTold 41 = .ok (.getfield 61, 3) := by decide +kernel
theorem dX7_dayTold_44 : decode cX7_dayTold 44 = .ok (.iload_n 1, 1) := by decide +kernel
theorem dX7_dayTold_45 : decode cX7_dayTold 45 = .ok (.invokevirtual 169, 3) := by decide +kernel
theorem dX7_dayTold_48 : decode cX7_dayTold 48 = .ok (.ireturn, 1) := by decide +kernel
theorem dX7_dayTold_49 : decode cX7_dayTold 49 = .ok (.aload_n 0, 1) := by decide +kernel
theorem dX7_dayTold_50 : decode cX7_dayTold 50 = .ok (.getfield 61, 3) := by decide +kernel
theorem dX7_dayTold_53 : decode cX7_dayTold 53 = .ok (.iload_n 1, 1) := by decide +kernel
theorem dX7_dayTold_54 : decode cX7_dayTold 54 = .ok (.invokevirtual 172, 3) := by decide +kernel
theorem dX7_dayTold_57 : decode cX7_dayTold 57 = .ok (.ireturn, 1) := by decide +kernel
theorem dX7_dayTold_58 : decode cX7_dayTold 58 = .ok (.aload_n 0, 1) := by decide +kernel
theorem dX7_dayTold_59 : decode cX7_dayTold 59 = .ok (.getfield 61, 3) := by decide +kernel
theorem dX7_dayTold_62 : decode cX7_dayTold 62 = .ok (.iload_n 1, 1) := by decide +kernel
theorem dX7_dayTold_63 : decode cX7_dayTold 63 = .ok (.invokevirtual 175, 3) := by decide +kernel
theorem dX7_dayTold_66 : decode cX7_dayTold 66 = .ok (.ireturn, 1) := by decide +kernel
theorem dX7_dayTold_67 : decode cX7_dayTold 67 = .ok (.ldc 76, 2) := by decide +kernel
theorem dX7_dayTold_69 : decode cX7_dayTold 69 = .ok (.ireturn, 1) := by decide +kernel
set_option maxRecDepth 20000 in
theorem ggX7_day_X7_refusalOfDays : GoodIn wsX7_day wsX7_refusalOfDays := goodIn_r _ [9, 10, 3, 11, 2, 12, 13, 14, 15, 8, 16, 17, 18, 19, 20, 21, 22, 126, 127, 128, 129, 130, 131, 132, 133, 134, 135, 136, 137, 138, 139, 140, 141, 142, 143, 144, 145, 146, 147, 148, 149, 150, 151, 152] (by decide +kernel) (by decide +kernel)
set_option maxRecDepth 20000 in
theorem gX7_day_X7_refusalOfDays : GoodIn wsX7_day (wsV RX7 178 RX7 yX7_refusalOfDays wsX7_refusalOfDays) := goodIn_app (goodIn_of _ (by decide +kernel)) ggX7_day_X7_refusalOfDays
set_option maxRecDepth 20000 in
theorem ggX7_day_X4_push : GoodIn wsX7_day wsX4_push := goodIn_r _ [27, 28, 29, 30, 31, 32, 33, 34, 35, 36, 26, 37, 38, 39, 40, 41, 42, 43, 44, 45, 46, 47, 48, 49, 50, 51, 52, 53, 54, 8, 55, 56, 57, 153, 154, 155, 137, 138, 139, 140, 141, 142] (by decide +kernel) (by decide +kernel)
set_option maxRecDepth 20000 in
theorem gX7_day_X4_push : GoodIn wsX7_day (wsV RX7 181 RX4 yX4_push wsX4_push) := goodIn_app (goodIn_of _ (by decide +kernel)) ggX7_day_X4_push
set_option maxRecDepth 20000 in
theorem ggX7_day_X1_passDay : GoodIn wsX7_day wsX1_passDay := goodIn_r _ [61, 49, 47, 46, 62, 48, 63, 31, 32, 33, 64, 65, 66, 42, 67, 68, 69, 70, 20, 71, 72, 73, 74, 75, 76, 77, 54, 8, 55, 78, 79, 80, 81, 82, 83, 84, 85, 86, 87, 88, 89, 90, 91, 92, 93, 94, 95, 96, 97, 98, 99, 100, 101, 102, 103, 104, 105, 106, 107, 108, 109, 110, 111, 112, 113, 114, 115, 22, 116, 117, 118, 119, 44, 120, 121, 122, 123, 124, 125, 56, 57, 137, 138, 139, 140, 141, 142, 143, 144, 145, 146, 147, 148, 149, 150, 151, 152] (by decide +kernel) (by decide +kernel)
set_option maxRecDepth 20000 in
theorem gX7_day_X1_passDay : GoodIn wsX7_day (wsV RX7 185 RX1 yX1_passDay wsX1_passDay) := goodIn_app (goodIn_of _ (by decide +kernel)) ggX7_day_X1_passDay
theorem dX7_day_0 : decode cX7_day 0 = .ok (.aload_n 0, 1) := by decide +kernel
theorem dX7_day_1 : decode cX7_day 1 = .ok (.iload_n 1, 1) := by decide +kernel
theorem dX7_day_2 : decode cX7_day 2 = .ok (.invokevirtual 178, 3) := by decide +kernel
theorem dX7_day_5 : decode cX7_day 5 = .ok (.istore_n 2, 1) := by decide +kernel
theorem dX7_day_6 : decode cX7_day 6 = .ok (.iload_n 2, 1) := by decide +kernel
theorem dX7_day_7 : decode cX7_day 7 = .ok (.ifCond .eq 5, 3) := by decide +kernel
theorem dX7_day_10 : decode cX7_day 10 = .ok (.iload_n 2, 1) := by decide +kernel
theorem dX7_day_11 : decode cX7_day 11 = .ok (.ireturn, 1) := by decide +kernel
theorem dX7_day_12 : decode cX7_day 12 = .ok (.aload_n 0, 1) := by decide +kernel
theorem dX7_day_13 : decode cX7_day 13 = .ok (.getfield 26, 3) := by decide +kernel
theorem dX7_day_16 : decode cX7_day 16 = .ok (.aload_n 0, 1) := by decide +kernel
theorem dX7_day_17 : decode cX7_day 17 = .ok (.getfield 19, 3) := by decide +kernel
theorem dX7_day_20 : decode cX7_day 20 = .ok (.invokevirtual 181, 3) := by decide +kernel
theorem dX7_day_23 : decode cX7_day 23 = .ok (.iconst 0, 1) := by decide +kernel
theorem dX7_day_24 : decode cX7_day 24 = .ok (.istore_n 3, 1) := by decide +kernel
theorem dX7_day_25 : decode cX7_day 25 = .ok (.iload_n 3, 1) := by decide +kernel
theorem dX7_day_26 : decode cX7_day 26 = .ok (.iload_n 1, 1) := by decide +kernel
theorem dX7_day_27 : decode cX7_day 27 = .ok (.if_icmp .ge 20, 3) := by decide +kernel
theorem dX7_day_30 : decode cX7_day 30 = .ok (.aload_n 0, 1) := by decide +kernel
theorem dX7_day_31 : decode cX7_day 31 = .ok (.getfield 19, 3) := by decide +kernel
theorem dX7_day_34 : decode cX7_day 34 = .ok (.aload_n 0, 1) := by decide +kernel
theorem dX7_day_35 : decode cX7_day 35 = .ok (.getfield 61, 3) := by decide +kernel
theorem dX7_day_38 : decode cX7_day 38 = .ok (.invokevirtual 185, 3) := by decide +kernel
theorem dX7_day_41 : decode cX7_day 41 = .ok (.iinc 3 1, 3) := by decide +kernel
theorem dX7_day_44 : decode cX7_day 44 = .ok (.goto (-19), 3) := by decide +kernel
theorem dX7_day_47 : decode cX7_day 47 = .ok (.aload_n 0, 1) := by decide +kernel
theorem dX7_day_48 : decode cX7_day 48 = .ok (.getfield 19, 3) := by decide +kernel
theorem dX7_day_51 : decode cX7_day 51 = .ok (.getfield 128, 3) := by decide +kernel
theorem dX7_day_54 : decode cX7_day 54 = .ok (.ireturn, 1) := by decide +kernel
set_option maxRecDepth 20000 in
theorem ggX7_attempt_X2_stands : GoodIn wsX7_attempt wsX2_stands := goodIn_r _ [9, 10, 103, 104, 105, 106, 107, 108, 109, 110, 111, 112] (by decide +kernel) (by decide +kernel)
set_option maxRecDepth 20000 in
theorem gX7_attempt_X2_stands : GoodIn wsX7_attempt (wsV RX7 188 RX2 yX2_stands wsX2_stands) := goodIn_app (goodIn_of _ (by decide +kernel)) ggX7_attempt_X2_stands
set_option maxRecDepth 20000 in
theorem ggX7_attempt_X4_push : GoodIn wsX7_attempt wsX4_push := goodIn_r _ [15, 16, 17, 18, 19, 20, 21, 22, 23, 24, 14, 25, 26, 27, 28, 29, 30, 31, 32, 33, 34, 35, 36, 37, 38, 39, 40, 41, 42, 43, 44, 45, 46, 113, 114, 115, 116, 117, 118, 119, 120, 121] (by decide +kernel) (by decide +kernel)
set_option maxRecDepth 20000 in
theorem gX7_attempt_X4_push : GoodIn wsX7_attempt (wsV RX7 181 RX4 yX4_push wsX4_push) := goodIn_app (goodIn_of _ (by decide +kernel)) ggX7_attempt_X4_push
set_option maxRecDepth 20000 in
theorem ggX7_attempt_X1_loseSeen : GoodIn wsX7_attempt wsX1_loseSeen := goodIn_r _ [50, 37, 34, 51, 52, 53, 30, 54, 55, 56, 57, 8, 58, 59, 60, 61, 62, 63, 64, 42, 43, 44, 65, 66, 67, 68, 69, 70, 71, 72, 73, 74, 75, 76, 77, 78, 79, 80, 81, 82, 83, 84, 85, 86, 87, 88, 89, 90, 91, 116, 117, 118, 119, 120, 121, 103, 104, 105, 106, 107, 108, 109, 110, 111, 112] (by decide +kernel) (by decide +kernel)
set_option maxRecDepth 20000 in
theorem gX7_attempt_X1_loseSeen : GoodIn wsX7_attempt (wsV RX7 193 RX1 yX1_loseSeen wsX1_loseSeen) := goodIn_app (goodIn_of _ (by decide +kernel)) ggX7_attempt_X1_loseSeen
theorem dX7_attempt_0 : decode cX7_attempt 0 = .ok (.aload_n 0, 1) := by decide +kernel
theorem dX7_attempt_1 : decode cX7_attempt 1 = .ok (.getfield 61, 3) := by decide +kernel
theorem dX7_attempt_4 : decode cX7_attempt 4 = .ok (.invokevirtual 188, 3) := by decide +kernel
theorem dX7_attempt_7 : decode cX7_attempt 7 = .ok (.ifCond .ne 6, 3) := by decide +kernel
theorem dX7_attempt_10 : decode cX7_attempt 10 = .ok (.ldc 192, 2) := by decide +kernel
theorem dX7_attempt_12 : decode cX7_attempt 12 = .ok (.ireturn, 1) := by decide +kernel
theorem dX7_attempt_13 : decode cX7_attempt 13 = .ok (.aload_n 0, 1) := by decide +kernel
theorem dX7_attempt_14 : decode cX7_attempt 14 = .ok (.getfield 26, 3) := by decide +kernel
theorem dX7_attempt_17 : decode cX7_attempt 17 = .ok (.aload_n 0, 1) := by decide +kernel
theorem dX7_attempt_18 : decode cX7_attempt 18 = .ok (.getfield 19, 3) := by decide +kernel
theorem dX7_attempt_21 : decode cX7_attempt 21 = .ok (.invokevirtual 181, 3) := by decide +kernel
theorem dX7_attempt_24 : decode cX7_attempt 24 = .ok (.aload_n 0, 1) := by decide +kernel
theorem dX7_attempt_25 : decode cX7_attempt 25 = .ok (.getfield 19, 3) := by decide +kernel
theorem dX7_attempt_28 : decode cX7_attempt 28 = .ok (.aload_n 0, 1) := by decide +kernel
theorem dX7_attempt_29 : decode cX7_attempt 29 = .ok (.getfield 61, 3) := by decide +kernel
theorem dX7_attempt_32 : decode cX7_attempt 32 = .ok (.invokevirtual 193, 3) := by decide +kernel
theorem dX7_attempt_35 : decode cX7_attempt 35 = .ok (.ireturn, 1) := by decide +kernel
set_option maxRecDepth 20000 in
theorem ggX7_hire_X4_push : GoodIn wsX7_hire wsX4_push := goodIn_r _ [11, 12, 13, 14, 15, 16, 17, 18, 19, 20, 10, 21, 22, 23, 24, 25, 26, 27, 28, 29, 30, 31, 32, 33, 34, 35, 36, 37, 38, 39, 40, 41, 42, 70, 71, 72, 64, 65, 66, 67, 68, 69] (by decide +kernel) (by decide +kernel)
set_option maxRecDepth 20000 in
theorem gX7_hire_X4_push : GoodIn wsX7_hire (wsV RX7 181 RX4 yX4_push wsX4_push) := goodIn_app (goodIn_of _ (by decide +kernel)) ggX7_hire_X4_push
set_option maxRecDepth 20000 in
theorem ggX7_hire_X1_takeOn : GoodIn wsX7_hire wsX1_takeOn := goodIn_r _ [46, 29, 28, 30, 47, 48, 49, 26, 50, 51, 39, 52, 38, 40, 41, 42, 64, 65, 66, 67, 68, 69] (by decide +kernel) (by decide +kernel)
set_option maxRecDepth 20000 in
theorem gX7_hire_X1_takeOn : GoodIn wsX7_hire (wsV RX7 196 RX1 yX1_takeOn wsX1_takeOn) := goodIn_app (goodIn_of _ (by decide +kernel)) ggX7_hire_X1_takeOn
theorem dX7_hire_0 : decode cX7_hire 0 = .ok (.aload_n 0, 1) := by decide +kernel
theorem dX7_hire_1 : decode cX7_hire 1 = .ok (.getfield 19, 3) := by decide +kernel
theorem dX7_hire_4 : decode cX7_hire 4 = .ok (.getfield 118, 3) := by decide +kernel
theorem dX7_hire_7 : decode cX7_hire 7 = .ok (.ifCond .ne 6, 3) := by decide +kernel
theorem dX7_hire_10 : decode cX7_hire 10 = .ok (.ldc 192, 2) := by decide +kernel
theorem dX7_hire_12 : decode cX7_hire 12 = .ok (.ireturn, 1) := by decide +kernel
theorem dX7_hire_13 : decode cX7_hire 13 = .ok (.aload_n 0, 1) := by decide +kernel
theorem dX7_hire_14 : decode cX7_hire 14 = .ok (.getfield 19, 3) := by decide +kernel
theorem dX7_hire_17 : decode cX7_hire 17 = .ok (.getfield 113, 3) := by decide +kernel
theorem dX7_hire_20 : decode cX7_hire 20 = .ok (.bipush 8, 2) := by decide +kernel
theorem dX7_hire_22 : decode cX7_hire 22 = .ok (.if_icmp .lt 6, 3) := by decide +kernel
theorem dX7_hire_25 : decode cX7_hire 25 = .ok (.ldc 84, 2) := by decide +kernel
theorem dX7_hire_27 : decode cX7_hire 27 = .ok (.ireturn, 1) := by decide +kernel
theorem dX7_hire_28 : decode cX7_hire 28 = .ok (.aload_n 0, 1) := by decide +kernel
theorem dX7_hire_29 : decode cX7_hire 29 = .ok (.getfield 26, 3) := by decide +kernel
theorem dX7_hire_32 : decode cX7_hire 32 = .ok (.aload_n 0, 1) := by decide +kernel
theorem dX7_hire_33 : decode cX7_hire 33 = .ok (.getfield 19, 3) := by decide +kernel
theorem dX7_hire_36 : decode cX7_hire 36 = .ok (.invokevirtual 181, 3) := by decide +kernel
theorem dX7_hire_39 : decode cX7_hire 39 = .ok (.aload_n 0, 1) := by decide +kernel
theorem dX7_hire_40 : decode cX7_hire 40 = .ok (.getfield 19, 3) := by decide +kernel
theorem dX7_hire_43 : decode cX7_hire 43 = .ok (.invokevirtual 196, 3) := by decide +kernel
theorem dX7_hire_46 : decode cX7_hire 46 = .ok (.ireturn, 1) := by decide +kernel
set_option maxRecDepth 20000 in
theorem ggX7_drift_X7_refusalOfDays : GoodIn wsX7_drift wsX7_refusalOfDays := goodIn_r _ [10, 11, 3, 12, 2, 4, 13, 14, 15, 9, 16, 17, 18, 19, 20, 21, 22, 141, 142, 143, 144, 145, 146, 147, 148, 149, 150, 151, 152, 153, 154, 155, 156, 157, 158, 159, 160, 161, 162, 163, 164, 165, 166, 167] (by decide +kernel) (by decide +kernel)
set_option maxRecDepth 20000 in
theorem gX7_drift_X7_refusalOfDays : GoodIn wsX7_drift (wsV RX7 178 RX7 yX7_refusalOfDays wsX7_refusalOfDays) := goodIn_app (goodIn_of _ (by decide +kernel)) ggX7_drift_X7_refusalOfDays
set_option maxRecDepth 20000 in
theorem ggX7_drift_X4_push : GoodIn wsX7_drift wsX4_push := goodIn_r _ [27, 28, 29, 30, 31, 32, 33, 34, 35, 36, 26, 37, 38, 39, 40, 41, 42, 43, 44, 45, 46, 47, 48, 49, 50, 51, 52, 53, 54, 9, 55, 56, 57, 168, 169, 170, 152, 153, 154, 155, 156, 157] (by decide +kernel) (by decide +kernel)
set_option maxRecDepth 20000 in
theorem gX7_drift_X4_push : GoodIn wsX7_drift (wsV RX7 181 RX4 yX4_push wsX4_push) := goodIn_app (goodIn_of _ (by decide +kernel)) ggX7_drift_X4_push
set_option maxRecDepth 20000 in
theorem ggX7_drift_X7_draw : GoodIn wsX7_drift wsX7_draw := goodIn_r _ [61, 62, 63, 64, 65, 66, 141, 142, 143, 144, 145, 146, 147, 148, 149, 150, 151] (by decide +kernel) (by decide +kernel)
set_option maxRecDepth 20000 in
theorem gX7_drift_X7_draw : GoodIn wsX7_drift (wsV RX7 200 RX7 yX7_draw wsX7_draw) := goodIn_app (goodIn_of _ (by decide +kernel)) ggX7_drift_X7_draw
set_option maxRecDepth 20000 in
theorem ggX7_drift_X2_dangerOn : GoodIn wsX7_drift wsX2_dangerOn := goodIn_r _ [70, 71, 72, 73, 74, 20, 75, 76, 54, 9, 55, 158, 159, 160, 161, 162, 163, 164, 165, 166, 167] (by decide +kernel) (by decide +kernel)
set_option maxRecDepth 20000 in
theorem gX7_drift_X2_dangerOn : GoodIn wsX7_drift (wsV RX7 175 RX2 yX2_dangerOn wsX2_dangerOn) := goodIn_app (goodIn_of _ (by decide +kernel)) ggX7_drift_X2_dangerOn
set_option maxRecDepth 20000 in
theorem ggX7_drift_X1_loseSeen : GoodIn wsX7_drift wsX1_loseSeen := goodIn_r _ [80, 49, 46, 81, 82, 83, 42, 84, 85, 86, 87, 20, 88, 89, 72, 73, 74, 75, 76, 54, 9, 55, 90, 91, 92, 93, 94, 95, 68, 69, 70, 71, 96, 97, 98, 99, 100, 101, 102, 103, 104, 105, 106, 107, 108, 109, 110, 111, 112, 152, 153, 154, 155, 156, 157, 158, 159, 160, 161, 162, 163, 164, 165, 166, 167] (by decide +kernel) (by decide +kernel)
set_option maxRecDepth 20000 in
theorem gX7_drift_X1_loseSeen : GoodIn wsX7_drift (wsV RX7 193 RX1 yX1_loseSeen wsX1_loseSeen) := goodIn_app (goodIn_of _ (by decide +kernel)) ggX7_drift_X1_loseSeen
set_option maxRecDepth 20000 in
theorem ggX7_drift_X1_passDay : GoodIn wsX7_drift wsX1_passDay := goodIn_r _ [116, 49, 47, 46, 117, 48, 118, 31, 32, 33, 81, 82, 83, 42, 84, 85, 86, 87, 20, 88, 89, 72, 73, 74, 75, 76, 54, 9, 55, 90, 91, 92, 93, 94, 95, 68, 69, 70, 71, 96, 97, 98, 99, 100, 101, 102, 103, 104, 105, 106, 107, 108, 109, 110, 111, 112, 119, 120, 121, 122, 123, 124, 125, 126, 127, 128, 129, 22, 130, 131, 132, 133, 44, 134, 135, 136, 137, 138, 139, 56, 57, 152, 153, 154, 155, 156, 157, 158, 159, 160, 161, 162, 163, 164, 165, 166, 167] (by decide +kernel) (by decide +kernel)
set_option maxRecDepth 20000 in
theorem gX7_drift_X1_passDay : GoodIn wsX7_drift (wsV RX7 185 RX1 yX1_passDay wsX1_passDay) := goodIn_app (goodIn_of _ (by decide +kernel)) ggX7_drift_X1_passDay
set_option maxRecDepth 20000 in
theorem ggX7_drift_J6_bitCount_0f7a4 : GoodIn wsX7_drift wsJ6_bitCount_0f7a4 := goodIn_r _ [122, 123, 124, 125] (by decide +kernel) (by decide +kernel)
set_option maxRecDepth 20000 in
theorem gX7_drift_J6_bitCount_0f7a4 : GoodIn wsX7_drift (va_wsS RX7 203 yJ6_bitCount_0f7a4 wsJ6_bitCount_0f7a4) := goodIn_app (goodIn_of _ (by decide +kernel)) ggX7_drift_J6_bitCount_0f7a4
theorem dX7_drift_0 : decode cX7_drift 0 = .ok (.aload_n 0, 1) := by decide +kernel
theorem dX7_drift_1 : decode cX7_drift 1 = .ok (.iload_n 1, 1) := by decide +kernel
theorem dX7_drift_2 : decode cX7_drift 2 = .ok (.invokevirtual 178, 3) := by decide +kernel
theorem dX7_drift_5 : decode cX7_drift 5 = .ok (.istore_n 2, 1) := by decide +kernel
theorem dX7_drift_6 : decode cX7_drift 6 = .ok (.iload_n 2, 1) := by decide +kernel
theorem dX7_drift_7 : decode cX7_drift 7 = .ok (.ifCond .eq 5, 3) := by decide +kernel
theorem dX7_drift_10 : decode cX7_drift 10 = .ok (.iload_n 2, 1) := by decide +kernel
theorem dX7_drift_11 : decode cX7_drift 11 = .ok (.ireturn, 1) := by decide +kernel
theorem dX7_drift_12 : decode cX7_drift 12 = .ok (.aload_n 0, 1) := by decide +kernel
theorem dX7_drift_13 : decode cX7_drift 13 = .ok (.getfield 26, 3) := by decide +kernel
theorem dX7_drift_16 : decode cX7_drift 16 = .ok (.aload_n 0, 1) := by decide +kernel
theorem dX7_drift_17 : decode cX7_drift 17 = .ok (.getfield 19, 3) := by decide +kernel
theorem dX7_drift_20 : decode cX7_drift 20 = .ok (.invokevirtual 181, 3) := by decide +kernel
theorem dX7_drift_23 : decode cX7_drift 23 = .ok (.iconst 0, 1) := by decide +kernel
theorem dX7_drift_24 : decode cX7_drift 24 = .ok (.istore_n 3, 1) := by decide +kernel
theorem dX7_drift_25 : decode cX7_drift 25 = .ok (.iload_n 3, 1) := by decide +kernel
theorem dX7_drift_26 : decode cX7_drift 26 = .ok (.iload_n 1, 1) := by decide +kernel
theorem dX7_drift_27 : decode cX7_drift 27 = .ok (.if_icmp .ge 55, 3) := by decide +kernel
theorem dX7_drift_30 : decode cX7_drift 30 = .ok (.aload_n 0, 1) := by decide +kernel
theorem dX7_drift_31 : decode cX7_drift 31 = .ok (.bipush 100, 2) := by decide +kernel
theorem dX7_drift_33 : decode cX7_drift 33 = .ok (.invokevirtual 200, 3) := by decide +kernel
theorem dX7_drift_36 : decode cX7_drift 36 = .ok (.aload_n 0, 1) := by decide +kernel
theorem dX7_drift_37 : decode cX7_drift 37 = .ok (.getfield 61, 3) := by decide +kernel
theorem dX7_drift_40 : decode cX7_drift 40 = .ok (.aload_n 0, 1) := by decide +kernel
theorem dX7_drift_41 : decode cX7_drift 41 = .ok (.getfield 19, 3) := by decide +kernel
theorem dX7_drift_44 : decode cX7_drift 44 = .ok (.getfield 117, 3) := by decide +kernel
theorem dX7_drift_47 : decode cX7_drift 47 = .ok (.invokevirtual 175, 3) := by decide +kernel
theorem dX7_drift_50 : decode cX7_drift 50 = .ok (.if_icmp .ge 15, 3) := by decide +kernel
theorem dX7_drift_53 : decode cX7_drift 53 = .ok (.aload_n 0, 1) := by decide +kernel
theorem dX7_drift_54 : decode cX7_drift 54 = .ok (.getfield 19, 3) := by decide +kernel
theorem dX7_drift_57 : decode cX7_drift 57 = .ok (.aload_n 0, 1) := by decide +kernel
theorem dX7_drift_58 : decode cX7_drift 58 = .ok (.getfield 61, 3) := by decide +kernel
theorem dX7_drift_61 : decode cX7_drift 61 = .ok (.invokevirtual 193, 3) := by decide +kernel
theorem dX7_drift_64 : decode cX7_drift 64 = .ok (.pop, 1) := by decide +kernel
theorem dX7_drift_65 : decode cX7_drift 65 = .ok (.aload_n 0, 1) := by decide +kernel
theorem dX7_drift_66 : decode cX7_drift 66 = .ok (.getfield 19, 3) := by decide +kernel
theorem dX7_drift_69 : decode cX7_drift 69 = .ok (.aload_n 0, 1) := by decide +kernel
theorem dX7_drift_70 : decode cX7_drift 70 = .ok (.getfield 61, 3) := by decide +kernel
theorem dX7_drift_73 : decode cX7_drift 73 = .ok (.invokevirtual 185, 3) := by decide +kernel
theorem dX7_drift_76 : decode cX7_drift 76 = .ok (.iinc 3 1, 3) := by decide +kernel
theorem dX7_drift_79 : decode cX7_drift 79 = .ok (.goto (-54), 3) := by decide +kernel
theorem dX7_drift_82 : decode cX7_drift 82 = .ok (.aload_n 0, 1) := by decide +kernel
theorem dX7_drift_83 : decode cX7_drift 83 = .ok (.getfield 19, 3) := by decide +kernel
theorem dX7_drift_86 : decode cX7_drift 86 = .ok (.getfield 118, 3) := by decide +kernel
theorem dX7_drift_89 : decode cX7_drift 89 = .ok (.invokestatic 203, 3) := by decide +kernel
theorem dX7_drift_92 : decode cX7_drift 92 = .ok (.ireturn, 1) := by decide +kernel
set_option maxRecDepth 20000 in
theorem ggX7_undo_X4_popInto : GoodIn wsX7_undo wsX4_popInto := goodIn_r _ [9, 10, 11, 12, 13, 14, 8, 15, 16, 17, 18, 19, 20, 21, 22, 23, 24, 25, 26, 27, 28, 29, 30, 31, 32, 33, 34, 35, 36, 48, 49, 50, 51, 52, 53, 54, 55, 56] (by decide +kernel) (by decide +kernel)
set_option maxRecDepth 20000 in
theorem gX7_undo_X4_popInto : GoodIn wsX7_undo (wsV RX7 208 RX4 yX4_popInto wsX4_popInto) := goodIn_app (goodIn_of _ (by decide +kernel)) ggX7_undo_X4_popInto
theorem dX7_undo_0 : decode cX7_undo 0 = .ok (.aload_n 0, 1) := by decide +kernel
theorem dX7_undo_1 : decode cX7_undo 1 = .ok (.getfield 26, 3) := by decide +kernel
theorem dX7_undo_4 : decode cX7_undo 4 = .ok (.getfield 131, 3) := by decide +kernel
theorem dX7_undo_7 : decode cX7_undo 7 = .ok (.ifCond .ne 6, 3) := by decide +kernel
theorem dX7_undo_10 : decode cX7_undo 10 = .ok (.ldc 192, 2) := by decide +kernel
theorem dX7_undo_12 : decode cX7_undo 12 = .ok (.ireturn, 1) := by decide +kernel
theorem dX7_undo_13 : decode cX7_undo 13 = .ok (.aload_n 0, 1) := by decide +kernel
theorem dX7_undo_14 : decode cX7_undo 14 = .ok (.getfield 26, 3) := by decide +kernel
theorem dX7_undo_17 : decode cX7_undo 17 = .ok (.aload_n 0, 1) := by decide +kernel
theorem dX7_undo_18 : decode cX7_undo 18 = .ok (.getfield 19, 3) := by decide +kernel
theorem dX7_undo_21 : decode cX7_undo 21 = .ok (.invokevirtual 208, 3) := by decide +kernel
theorem dX7_undo_24 : decode cX7_undo 24 = .ok (.aload_n 0, 1) := by decide +kernel
theorem dX7_undo_25 : decode cX7_undo 25 = .ok (.getfield 26, 3) := by decide +kernel
theorem dX7_undo_28 : decode cX7_undo 28 = .ok (.getfield 131, 3) := by decide +kernel
theorem dX7_undo_31 : decode cX7_undo 31 = .ok (.ireturn, 1) := by decide +kernel
set_option maxRecDepth 20000 in
theorem ggX7_refusalOfDays_X7_within : GoodIn wsX7_refusalOfDays wsX7_within := goodIn_r _ [10] (by decide +kernel) (by decide +kernel)
set_option maxRecDepth 20000 in
theorem gX7_refusalOfDays_X7_within : GoodIn wsX7_refusalOfDays (va_wsS RX7 72 yX7_within wsX7_within) := goodIn_app (goodIn_of _ (by decide +kernel)) ggX7_refusalOfDays_X7_within
set_option maxRecDepth 20000 in
theorem ggX7_refusalOfDays_X2_stands : GoodIn wsX7_refusalOfDays wsX2_stands := goodIn_r _ [15, 16, 34, 35, 36, 37, 38, 39, 40, 41, 42, 43] (by decide +kernel) (by decide +kernel)
set_option maxRecDepth 20000 in
theorem gX7_refusalOfDays_X2_stands : GoodIn wsX7_refusalOfDays (wsV RX7 188 RX2 yX2_stands wsX2_stands) := goodIn_app (goodIn_of _ (by decide +kernel)) ggX7_refusalOfDays_X2_stands
theorem dX7_refusalOfDays_0 : decode cX7_refusalOfDays 0 = .ok (.iload_n 1, 1) := by decide +kernel
theorem dX7_refusalOfDays_1 : decode cX7_refusalOfDays 1 = .ok (.iconst 1, 1) := by decide +kernel
theorem dX7_refusalOfDays_2 : decode cX7_refusalOfDays 2 = .ok (.bipush 60, 2) := by decide +kernel
theorem dX7_refusalOfDays_4 : decode cX7_refusalOfDays 4 = .ok (.invokestatic 72, 3) := by decide +kernel
theorem dX7_refusalOfDays_7 : decode cX7_refusalOfDays 7 = .ok (.ifCond .ne 6, 3) := by decide +kernel
theorem dX7_refusalOfDays_10 : decode cX7_refusalOfDays 10 = .ok (.ldc 76, 2) := by decide +kernel
theorem dX7_refusalOfDays_12 : decode cX7_refusalOfDays 12 = .ok (.ireturn, 1) := by decide +kernel
theorem dX7_refusalOfDays_13 : decode cX7_refusalOfDays 13 = .ok (.aload_n 0, 1) := by decide +kernel
theorem dX7_refusalOfDays_14 : decode cX7_refusalOfDays 14 = .ok (.getfield 61, 3) := by decide +kernel
theorem dX7_refusalOfDays_17 : decode cX7_refusalOfDays 17 = .ok (.invokevirtual 188, 3) := by decide +kernel
theorem dX7_refusalOfDays_20 : decode cX7_refusalOfDays 20 = .ok (.ifCond .ne 6, 3) := by decide +kernel
theorem dX7_refusalOfDays_23 : decode cX7_refusalOfDays 23 = .ok (.ldc 192, 2) := by decide +kernel
theorem dX7_refusalOfDays_25 : decode cX7_refusalOfDays 25 = .ok (.ireturn, 1) := by decide +kernel
theorem dX7_refusalOfDays_26 : decode cX7_refusalOfDays 26 = .ok (.aload_n 0, 1) := by decide +kernel
theorem dX7_refusalOfDays_27 : decode cX7_refusalOfDays 27 = .ok (.getfield 19, 3) := by decide +kernel
theorem dX7_refusalOfDays_30 : decode cX7_refusalOfDays 30 = .ok (.getfield 117, 3) := by decide +kernel
theorem dX7_refusalOfDays_33 : decode cX7_refusalOfDays 33 = .ok (.sipush 9000, 3) := by decide +kernel
theorem dX7_refusalOfDays_36 : decode cX7_refusalOfDays 36 = .ok (.if_icmp .le 8, 3) := by decide +kernel
theorem dX7_refusalOfDays_39 : decode cX7_refusalOfDays 39 = .ok (.ldc 84, 2) := by decide +kernel
theorem dX7_refusalOfDays_41 : decode cX7_refusalOfDays 41 = .ok (.goto 4, 3) := by decide +kernel
theorem dX7_refusalOfDays_44 : decode cX7_refusalOfDays 44 = .ok (.iconst 0, 1) := by decide +kernel
theorem dX7_refusalOfDays_45 : decode cX7_refusalOfDays 45 = .ok (.ireturn, 1) := by decide +kernel
theorem dX7_draw_0 : decode cX7_draw 0 = .ok (.aload_n 0, 1) := by decide +kernel
theorem dX7_draw_1 : decode cX7_draw 1 = .ok (.aload_n 0, 1) := by decide +kernel
theorem dX7_draw_2 : decode cX7_draw 2 = .ok (.getfield 68, 3) := by decide +kernel
theorem dX7_draw_5 : decode cX7_draw 5 = .ok (.i2l, 1) := by decide +kernel
theorem dX7_draw_6 : decode cX7_draw 6 = .ok (.ldc2_w 211, 3) := by decide +kernel
theorem dX7_draw_9 : decode cX7_draw 9 = .ok (.lmul, 1) := by decide +kernel
theorem dX7_draw_10 : decode cX7_draw 10 = .ok (.ldc2_w 213, 3) := by decide +kernel
theorem dX7_draw_13 : decode cX7_draw 13 = .ok (.ladd, 1) := by decide +kernel
theorem dX7_draw_14 : decode cX7_draw 14 = .ok (.ldc2_w 215, 3) := by decide +kernel
theorem dX7_draw_17 : decode cX7_draw 17 = .ok (.lrem, 1) := by decide +kernel
theorem dX7_draw_18 : decode cX7_draw 18 = .ok (.l2i, 1) := by decide +kernel
theorem dX7_draw_19 : decode cX7_draw 19 = .ok (.putfield 68, 3) := by decide +kernel
theorem dX7_draw_22 : decode cX7_draw 22 = .ok (.iload_n 1, 1) := by decide +kernel
theorem dX7_draw_23 : decode cX7_draw 23 = .ok (.ifCond .le 15, 3) := by decide +kernel
theorem dX7_draw_26 : decode cX7_draw 26 = .ok (.aload_n 0, 1) := by decide +kernel
theorem dX7_draw_27 : decode cX7_draw 27 = .ok (.getfield 68, 3) := by decide +kernel
theorem dX7_draw_30 : decode cX7_draw 30 = .ok (.ldc 217, 2) := by decide +kernel
theorem dX7_draw_32 : decode cX7_draw 32 = .ok (.idiv, 1) := by decide +kernel
theorem dX7_draw_33 : decode cX7_draw 33 = .ok (.iload_n 1, 1) := by decide +kernel
theorem dX7_draw_34 : decode cX7_draw 34 = .ok (.irem, 1) := by decide +kernel
theorem dX7_draw_35 : decode cX7_draw 35 = .ok (.goto 4, 3) := by decide +kernel
theorem dX7_draw_38 : decode cX7_draw 38 = .ok (.iconst 0, 1) := by decide +kernel
theorem dX7_draw_39 : decode cX7_draw 39 = .ok (.ireturn, 1) := by decide +kernel
set_option maxRecDepth 20000 in
theorem ggX7_would_X7_within : GoodIn wsX7_would wsX7_within := goodIn_r _ [7] (by decide +kernel) (by decide +kernel)
set_option maxRecDepth 20000 in
theorem gX7_would_X7_within : GoodIn wsX7_would (va_wsS RX7 72 yX7_within wsX7_within) := goodIn_app (goodIn_of _ (by decide +kernel)) ggX7_would_X7_within
set_option maxRecDepth 20000 in
theorem ggX7_would_X1_seenBy : GoodIn wsX7_would wsX1_seenBy := goodIn_r _ [12, 13, 14, 15, 11, 16, 17, 18, 6, 19, 20, 21, 22, 23, 24, 25, 26, 27, 28, 29, 41, 42, 43, 44, 45, 46, 47, 48, 49, 50, 51, 52, 53, 54, 55, 56] (by decide +kernel) (by decide +kernel)
set_option maxRecDepth 20000 in
theorem gX7_would_X1_seenBy : GoodIn wsX7_would (wsV RX7 218 RX1 yX1_seenBy wsX1_seenBy) := goodIn_app (goodIn_of _ (by decide +kernel)) ggX7_would_X1_seenBy
theorem dX7_would_0 : decode cX7_would 0 = .ok (.iload_n 1, 1) := by decide +kernel
theorem dX7_would_1 : decode cX7_would 1 = .ok (.iconst 0, 1) := by decide +kernel
theorem dX7_would_2 : decode cX7_would 2 = .ok (.iconst 2, 1) := by decide +kernel
theorem dX7_would_3 : decode cX7_would 3 = .ok (.invokestatic 72, 3) := by decide +kernel
theorem dX7_would_6 : decode cX7_would 6 = .ok (.ifCond .eq 22, 3) := by decide +kernel
theorem dX7_would_9 : decode cX7_would 9 = .ok (.iload_n 2, 1) := by decide +kernel
theorem dX7_would_10 : decode cX7_would 10 = .ok (.iconst 0, 1) := by decide +kernel
theorem dX7_would_11 : decode cX7_would 11 = .ok (.iconst 3, 1) := by decide +kernel
theorem dX7_would_12 : decode cX7_would 12 = .ok (.invokestatic 72, 3) := by decide +kernel
theorem dX7_would_15 : decode cX7_would 15 = .ok (.ifCond .eq 13, 3) := by decide +kernel
theorem dX7_would_18 : decode cX7_would 18 = .ok (.iload_n 3, 1) := by decide +kernel
theorem dX7_would_19 : decode cX7_would 19 = .ok (.iconst 0, 1) := by decide +kernel
theorem dX7_would_20 : decode cX7_would 20 = .ok (.bipush 9, 2) := by decide +kernel
theorem dX7_would_22 : decode cX7_would 22 = .ok (.invokestatic 72, 3) := by decide +kernel
theorem dX7_would_25 : decode cX7_would 25 = .ok (.ifCond .ne 6, 3) := by decide +kernel
theorem dX7_would_28 : decode cX7_would 28 = .ok (.ldc 76, 2) := by decide +kernel
theorem dX7_would_30 : decode cX7_would 30 = .ok (.ireturn, 1) := by decide +kernel
theorem dX7_would_31 : decode cX7_would 31 = .ok (.aload_n 0, 1) := by decide +kernel
theorem dX7_would_32 : decode cX7_would 32 = .ok (.getfield 19, 3) := by decide +kernel
theorem dX7_would_35 : decode cX7_would 35 = .ok (.aload_n 0, 1) := by decide +kernel
theorem dX7_would_36 : decode cX7_would 36 = .ok (.getfield 61, 3) := by decide +kernel
theorem dX7_would_39 : decode cX7_would 39 = .ok (.iload_n 1, 1) := by decide +kernel
theorem dX7_would_40 : decode cX7_would 40 = .ok (.iload_n 2, 1) := by decide +kernel
theorem dX7_would_41 : decode cX7_would 41 = .ok (.iload_n 3, 1) := by decide +kernel
theorem dX7_would_42 : decode cX7_would 42 = .ok (.invokevirtual 218, 3) := by decide +kernel
theorem dX7_would_45 : decode cX7_would 45 = .ok (.ireturn, 1) := by decide +kernel
set_option maxRecDepth 20000 in
theorem ggX7_firstNobody_X7_within : GoodIn wsX7_firstNobody wsX7_within := goodIn_r _ [8] (by decide +kernel) (by decide +kernel)
set_option maxRecDepth 20000 in
theorem gX7_firstNobody_X7_within : GoodIn wsX7_firstNobody (va_wsS RX7 72 yX7_within wsX7_within) := goodIn_app (goodIn_of _ (by decide +kernel)) ggX7_firstNobody_X7_within
set_option maxRecDepth 20000 in
theorem ggX7_firstNobody_X1_seenOn : GoodIn wsX7_firstNobody wsX1_seenOn := goodIn_r _ [13, 14, 15, 16, 17, 18, 19, 20, 21, 22, 23, 24, 25, 7, 26, 27, 28, 29, 30, 31, 32, 33, 34, 35, 36, 37, 38, 39, 12, 40, 41, 42, 43, 44, 45, 46, 47, 48, 49, 50, 51, 52, 53, 54, 72, 73, 74, 75, 76, 77, 78, 79, 80, 81, 66, 67, 68, 69, 70, 71] (by decide +kernel) (by decide +kernel)
set_option maxRecDepth 20000 in
theorem gX7_firstNobody_X1_seenOn : GoodIn wsX7_firstNobody (wsV RX7 124 RX1 yX1_seenOn wsX1_seenOn) := goodIn_app (goodIn_of _ (by decide +kernel)) ggX7_firstNobody_X1_seenOn
theorem dX7_firstNobody_0 : decode cX7_firstNobody 0 = .ok (.iload_n 1, 1) := by decide +kernel
theorem dX7_firstNobody_1 : decode cX7_firstNobody 1 = .ok (.iconst 0, 1) := by decide +kernel
theorem dX7_firstNobody_2 : decode cX7_firstNobody 2 = .ok (.bipush 60, 2) := by decide +kernel
theorem dX7_firstNobody_4 : decode cX7_firstNobody 4 = .ok (.invokestatic 72, 3) := by decide +kernel
theorem dX7_firstNobody_7 : decode cX7_firstNobody 7 = .ok (.ifCond .ne 6, 3) := by decide +kernel
theorem dX7_firstNobody_10 : decode cX7_firstNobody 10 = .ok (.ldc 76, 2) := by decide +kernel
theorem dX7_firstNobody_12 : decode cX7_firstNobody 12 = .ok (.ireturn, 1) := by decide +kernel
theorem dX7_firstNobody_13 : decode cX7_firstNobody 13 = .ok (.iconst 0, 1) := by decide +kernel
theorem dX7_firstNobody_14 : decode cX7_firstNobody 14 = .ok (.istore_n 2, 1) := by decide +kernel
theorem dX7_firstNobody_15 : decode cX7_firstNobody 15 = .ok (.iload_n 2, 1) := by decide +kernel
theorem dX7_firstNobody_16 : decode cX7_firstNobody 16 = .ok (.iload_n 1, 1) := by decide +kernel
theorem dX7_firstNobody_17 : decode cX7_firstNobody 17 = .ok (.if_icmp .ge 43, 3) := by decide +kernel
theorem dX7_firstNobody_20 : decode cX7_firstNobody 20 = .ok (.aload_n 0, 1) := by decide +kernel
theorem dX7_firstNobody_21 : decode cX7_firstNobody 21 = .ok (.getfield 19, 3) := by decide +kernel
theorem dX7_firstNobody_24 : decode cX7_firstNobody 24 = .ok (.aload_n 0, 1) := by decide +kernel
theorem dX7_firstNobody_25 : decode cX7_firstNobody 25 = .ok (.getfield 61, 3) := by decide +kernel
theorem dX7_firstNobody_28 : decode cX7_firstNobody 28 = .ok (.aload_n 0, 1) := by decide +kernel
theorem dX7_firstNobody_29 : decode cX7_firstNobody 29 = .ok (.getfield 19, 3) := by decide +kernel
theorem dX7_firstNobody_32 : decode cX7_firstNobody 32 = .ok (.getfield 117, 3) := by decide +kernel
theorem dX7_firstNobody_35 : decode cX7_firstNobody 35 = .ok (.iload_n 2, 1) := by decide +kernel
theorem dX7_firstNobody_36 : decode cX7_firstNobody 36 = .ok (.iadd, 1) := by decide +kernel
theorem dX7_firstNobody_37 : decode cX7_firstNobody 37 = .ok (.invokevirtual 124, 3) := by decide +kernel
theorem dX7_firstNobody_40 : decode cX7_firstNobody 40 = .ok (.iconst (-1), 1) := by decide +kernel
theorem dX7_firstNobody_41 : decode cX7_firstNobody 41 = .ok (.if_icmp .ne 13, 3) := by decide +kernel
theorem dX7_firstNobody_44 : decode cX7_firstNobody 44 = .ok (.aload_n 0, 1) := by decide +kernel
theorem dX7_firstNobody_45 : decode cX7_firstNobody 45 = .ok (.getfield 19, 3) := by decide +kernel
theorem dX7_firstNobody_48 : decode cX7_firstNobody 48 = .ok (.getfield 117, 3) := by decide +kernel
theorem dX7_firstNobody_51 : decode cX7_firstNobody 51 = .ok (.iload_n 2, 1) := by decide +kernel
theorem dX7_firstNobody_52 : decode cX7_firstNobody 52 = .ok (.iadd, 1) := by decide +kernel
theorem dX7_firstNobody_53 : decode cX7_firstNobody 53 = .ok (.ireturn, 1) := by decide +kernel
theorem dX7_firstNobody_54 : decode cX7_firstNobody 54 = .ok (.iinc 2 1, 3) := by decide +kernel
theorem dX7_firstNobody_57 : decode cX7_firstNobody 57 = .ok (.goto (-42), 3) := by decide +kernel
theorem dX7_firstNobody_60 : decode cX7_firstNobody 60 = .ok (.iconst (-1), 1) := by decide +kernel
theorem dX7_firstNobody_61 : decode cX7_firstNobody 61 = .ok (.ireturn, 1) := by decide +kernel
set_option maxRecDepth 20000 in
theorem ggX7_send_X7_within : GoodIn wsX7_send wsX7_within := goodIn_r _ [9] (by decide +kernel) (by decide +kernel)
set_option maxRecDepth 20000 in
theorem gX7_send_X7_within : GoodIn wsX7_send (va_wsS RX7 72 yX7_within wsX7_within) := goodIn_app (goodIn_of _ (by decide +kernel)) ggX7_send_X7_within
set_option maxRecDepth 20000 in
theorem ggX7_send_X1_goersOn : GoodIn wsX7_send wsX1_goersOn := goodIn_r _ [14, 15, 16, 17, 18, 19, 20, 21, 22, 23, 24, 25, 26, 27, 28, 29, 30, 31, 32, 33, 34, 35, 8, 36, 37, 38, 39, 40, 41, 42, 43, 44, 45, 46, 47, 48, 49, 50, 51, 52, 53, 54, 55, 87, 88, 89, 90, 91, 92, 93, 94, 95, 96, 97, 98, 99, 100, 101, 102] (by decide +kernel) (by decide +kernel)
set_option maxRecDepth 20000 in
theorem gX7_send_X1_goersOn : GoodIn wsX7_send (wsV RX7 222 RX1 yX1_goersOn wsX1_goersOn) := goodIn_app (goodIn_of _ (by decide +kernel)) ggX7_send_X1_goersOn
set_option maxRecDepth 20000 in
theorem ggX7_send_X7_put : GoodIn wsX7_send wsX7_put := goodIn_r _ [58] (by decide +kernel) (by decide +kernel)
set_option maxRecDepth 20000 in
theorem gX7_send_X7_put : GoodIn wsX7_send (va_wsS RX7 225 yX7_put wsX7_put) := goodIn_app (goodIn_of _ (by decide +kernel)) ggX7_send_X7_put
set_option maxRecDepth 20000 in
theorem ggX7_send_X7_leastToSend : GoodIn wsX7_send wsX7_leastToSend := goodIn_r _ [62, 2, 63, 35, 8, 36, 64, 54, 55, 65, 66, 67, 68, 69, 70, 71, 72, 73, 74, 75, 76, 77, 78, 79, 80, 81, 82, 83, 84, 85, 86] (by decide +kernel) (by decide +kernel)
set_option maxRecDepth 20000 in
theorem gX7_send_X7_leastToSend : GoodIn wsX7_send (wsV RX7 229 RX7 yX7_leastToSend wsX7_leastToSend) := goodIn_app (goodIn_of _ (by decide +kernel)) ggX7_send_X7_leastToSend
theorem dX7_send_0 : decode cX7_send 0 = .ok (.iload_n 1, 1) := by decide +kernel
theorem dX7_send_1 : decode cX7_send 1 = .ok (.iconst 1, 1) := by decide +kernel
theorem dX7_send_2 : decode cX7_send 2 = .ok (.bipush 6, 2) := by decide +kernel
theorem dX7_send_4 : decode cX7_send 4 = .ok (.invokestatic 72, 3) := by decide +kernel
theorem dX7_send_7 : decode cX7_send 7 = .ok (.ifCond .ne 6, 3) := by decide +kernel
theorem dX7_send_10 : decode cX7_send 10 = .ok (.ldc 76, 2) := by decide +kernel
theorem dX7_send_12 : decode cX7_send 12 = .ok (.ireturn, 1) := by decide +kernel
theorem dX7_send_13 : decode cX7_send 13 = .ok (.iload_n 2, 1) := by decide +kernel
theorem dX7_send_14 : decode cX7_send 14 = .ok (.iconst 0, 1) := by decide +kernel
theorem dX7_send_15 : decode cX7_send 15 = .ok (.iload_n 1, 1) := by decide +kernel
theorem dX7_send_16 : decode cX7_send 16 = .ok (.iconst 1, 1) := by decide +kernel
theorem dX7_send_17 : decode cX7_send 17 = .ok (.isub, 1) := by decide +kernel
theorem dX7_send_18 : decode cX7_send 18 = .ok (.invokestatic 72, 3) := by decide +kernel
theorem dX7_send_21 : decode cX7_send 21 = .ok (.ifCond .ne 5, 3) := by decide +kernel
theorem dX7_send_24 : decode cX7_send 24 = .ok (.iconst (-1), 1) := by decide +kernel
theorem dX7_send_25 : decode cX7_send 25 = .ok (.ireturn, 1) := by decide +kernel
theorem dX7_send_26 : decode cX7_send 26 = .ok (.iconst 0, 1) := by decide +kernel
theorem dX7_send_27 : decode cX7_send 27 = .ok (.istore_n 3, 1) := by decide +kernel
theorem dX7_send_28 : decode cX7_send 28 = .ok (.iload_n 3, 1) := by decide +kernel
theorem dX7_send_29 : decode cX7_send 29 = .ok (.iload_n 1, 1) := by decide +kernel
theorem dX7_send_30 : decode cX7_send 30 = .ok (.if_icmp .ge 37, 3) := by decide +kernel
theorem dX7_send_33 : decode cX7_send 33 = .ok (.aload_n 0, 1) := by decide +kernel
theorem dX7_send_34 : decode cX7_send 34 = .ok (.getfield 54, 3) := by decide +kernel
theorem dX7_send_37 : decode cX7_send 37 = .ok (.iload_n 3, 1) := by decide +kernel
theorem dX7_send_38 : decode cX7_send 38 = .ok (.aload_n 0, 1) := by decide +kernel
theorem dX7_send_39 : decode cX7_send 39 = .ok (.getfield 19, 3) := by decide +kernel
theorem dX7_send_42 : decode cX7_send 42 = .ok (.aload_n 0, 1) := by decide +kernel
theorem dX7_send_43 : decode cX7_send 43 = .ok (.getfield 61, 3) := by decide +kernel
theorem dX7_send_46 : decode cX7_send 46 = .ok (.aload_n 0, 1) := by decide +kernel
theorem dX7_send_47 : decode cX7_send 47 = .ok (.getfield 19, 3) := by decide +kernel
theorem dX7_send_50 : decode cX7_send 50 = .ok (.getfield 117, 3) := by decide +kernel
theorem dX7_send_53 : decode cX7_send 53 = .ok (.iload_n 3, 1) := by decide +kernel
theorem dX7_send_54 : decode cX7_send 54 = .ok (.iadd, 1) := by decide +kernel
theorem dX7_send_55 : decode cX7_send 55 = .ok (.invokevirtual 222, 3) := by decide +kernel
theorem dX7_send_58 : decode cX7_send 58 = .ok (.invokestatic 225, 3) := by decide +kernel
theorem dX7_send_61 : decode cX7_send 61 = .ok (.iinc 3 1, 3) := by decide +kernel
theorem dX7_send_64 : decode cX7_send 64 = .ok (.goto (-36), 3) := by decide +kernel
theorem dX7_send_67 : decode cX7_send 67 = .ok (.iconst (-1), 1) := by decide +kernel
theorem dX7_send_68 : decode cX7_send 68 = .ok (.istore_n 3, 1) := by decide +kernel
theorem dX7_send_69 : decode cX7_send 69 = .ok (.iconst 0, 1) := by decide +kernel
theorem dX7_send_70 : decode cX7_send 70 = .ok (.istore 4, 2) := by decide +kernel
theorem dX7_send_72 : decode cX7_send 72 = .ok (.iconst 0, 1) := by decide +kernel
theorem dX7_send_73 : decode cX7_send 73 = .ok (.istore 5, 2) := by decide +kernel
theorem dX7_send_75 : decode cX7_send 75 = .ok (.iload 5, 2) := by decide +kernel
theorem dX7_send_77 : decode cX7_send 77 = .ok (.iload_n 2, 1) := by decide +kernel
theorem dX7_send_78 : decode cX7_send 78 = .ok (.if_icmp .gt 34, 3) := by decide +kernel
theorem dX7_send_81 : decode cX7_send 81 = .ok (.aload_n 0, 1) := by decide +kernel
theorem dX7_send_82 : decode cX7_send 82 = .ok (.iload 5, 2) := by decide +kernel
theorem dX7_send_84 : decode cX7_send 84 = .ok (.iload_n 1, 1) := by decide +kernel
theorem dX7_send_85 : decode cX7_send 85 = .ok (.iload 4, 2) := by decide +kernel
theorem dX7_send_87 : decode cX7_send 87 = .ok (.invokevirtual 229, 3) := by decide +kernel
theorem dX7_send_90 : decode cX7_send 90 = .ok (.istore_n 3, 1) := by decide +kernel
theorem dX7_send_91 : decode cX7_send 91 = .ok (.iload_n 3, 1) := by decide +kernel
theorem dX7_send_92 : decode cX7_send 92 = .ok (.iconst (-1), 1) := by decide +kernel
theorem dX7_send_93 : decode cX7_send 93 = .ok (.if_icmp .ne 5, 3) := by decide +kernel
theorem dX7_send_96 : decode cX7_send 96 = .ok (.iconst (-1), 1) := by decide +kernel
theorem dX7_send_97 : decode cX7_send 97 = .ok (.ireturn, 1) := by decide +kernel
theorem dX7_send_98 : decode cX7_send 98 = .ok (.iload 4, 2) := by decide +kernel
theorem dX7_send_100 : decode cX7_send 100 = .ok (.iconst 1, 1) := by decide +kernel
theorem dX7_send_101 : decode cX7_send 101 = .ok (.iload_n 3, 1) := by decide +kernel
theorem dX7_send_102 : decode cX7_send 102 = .ok (.ishl, 1) := by decide +kernel
theorem dX7_send_103 : decode cX7_send 103 = .ok (.ior, 1) := by decide +kernel
theorem dX7_send_104 : decode cX7_send 104 = .ok (.istore 4, 2) := by decide +kernel
theorem dX7_send_106 : decode cX7_send 106 = .ok (.iinc 5 1, 3) := by decide +kernel
theorem dX7_send_109 : decode cX7_send 109 = .ok (.goto (-34), 3) := by decide +kernel
theorem dX7_send_112 : decode cX7_send 112 = .ok (.iload_n 3, 1) := by decide +kernel
theorem dX7_send_113 : decode cX7_send 113 = .ok (.ireturn, 1) := by decide +kernel
set_option maxRecDepth 20000 in
theorem ggX7_leastToSend_X7_at : GoodIn wsX7_leastToSend wsX7_at := goodIn_r _ [5] (by decide +kernel) (by decide +kernel)
set_option maxRecDepth 20000 in
theorem gX7_leastToSend_X7_at : GoodIn wsX7_leastToSend (va_wsS RX7 139 yX7_at wsX7_at) := goodIn_app (goodIn_of _ (by decide +kernel)) ggX7_leastToSend_X7_at
set_option maxRecDepth 20000 in
theorem ggX7_leastToSend_X7_holds : GoodIn wsX7_leastToSend wsX7_holds := goodIn_r _ [8] (by decide +kernel) (by decide +kernel)
set_option maxRecDepth 20000 in
theorem gX7_leastToSend_X7_holds : GoodIn wsX7_leastToSend (va_wsS RX7 233 yX7_holds wsX7_holds) := goodIn_app (goodIn_of _ (by decide +kernel)) ggX7_leastToSend_X7_holds
set_option maxRecDepth 20000 in
theorem ggX7_leastToSend_X7_canFill : GoodIn wsX7_leastToSend wsX7_canFill := goodIn_r _ [12, 1, 6, 7, 4, 8, 2, 3, 5, 13, 14, 15, 16, 17, 18, 19, 20, 21, 22, 23, 24, 25, 26, 27, 28, 29, 30] (by decide +kernel) (by decide +kernel)
set_option maxRecDepth 20000 in
theorem gX7_leastToSend_X7_canFill : GoodIn wsX7_leastToSend (wsV RX7 236 RX7 yX7_canFill wsX7_canFill) := goodIn_app (goodIn_of _ (by decide +kernel)) ggX7_leastToSend_X7_canFill
theorem dX7_leastToSend_0 : decode cX7_leastToSend 0 = .ok (.aload_n 0, 1) := by decide +kernel
theorem dX7_leastToSend_1 : decode cX7_leastToSend 1 = .ok (.getfield 54, 3) := by decide +kernel
theorem dX7_leastToSend_4 : decode cX7_leastToSend 4 = .ok (.iload_n 1, 1) := by decide +kernel
theorem dX7_leastToSend_5 : decode cX7_leastToSend 5 = .ok (.invokestatic 139, 3) := by decide +kernel
theorem dX7_leastToSend_8 : decode cX7_leastToSend 8 = .ok (.iload_n 3, 1) := by decide +kernel
theorem dX7_leastToSend_9 : decode cX7_leastToSend 9 = .ok (.iconst (-1), 1) := by decide +kernel
theorem dX7_leastToSend_10 : decode cX7_leastToSend 10 = .ok (.ixor, 1) := by decide +kernel
theorem dX7_leastToSend_11 : decode cX7_leastToSend 11 = .ok (.iand, 1) := by decide +kernel
theorem dX7_leastToSend_12 : decode cX7_leastToSend 12 = .ok (.istore 4, 2) := by decide +kernel
theorem dX7_leastToSend_14 : decode cX7_leastToSend 14 = .ok (.iconst 0, 1) := by decide +kernel
theorem dX7_leastToSend_15 : decode cX7_leastToSend 15 = .ok (.istore 5, 2) := by decide +kernel
theorem dX7_leastToSend_17 : decode cX7_leastToSend 17 = .ok (.iload 5, 2) := by decide +kernel
theorem dX7_leastToSend_19 : decode cX7_leastToSend 19 = .ok (.bipush 8, 2) := by decide +kernel
theorem dX7_leastToSend_21 : decode cX7_leastToSend 21 = .ok (.if_icmp .ge 39, 3) := by decide +kernel
theorem dX7_leastToSend_24 : decode cX7_leastToSend 24 = .ok (.iload 4, 2) := by decide +kernel
theorem dX7_leastToSend_26 : decode cX7_leastToSend 26 = .ok (.iload 5, 2) := by decide +kernel
theorem dX7_leastToSend_28 : decode cX7_leastToSend 28 = .ok (.invokestatic 233, 3) := by decide +kernel
theorem dX7_leastToSend_31 : decode cX7_leastToSend 31 = .ok (.ifCond .eq 23, 3) := by decide +kernel
theorem dX7_leastToSend_34 : decode cX7_leastToSend 34 = .ok (.aload_n 0, 1) := by decide +kernel
theorem dX7_leastToSend_35 : decode cX7_leastToSend 35 = .ok (.iload_n 1, 1) := by decide +kernel
theorem dX7_leastToSend_36 : decode cX7_leastToSend 36 = .ok (.iconst 1, 1) := by decide +kernel
theorem dX7_leastToSend_37 : decode cX7_leastToSend 37 = .ok (.iadd, 1) := by decide +kernel
theorem dX7_leastToSend_38 : decode cX7_leastToSend 38 = .ok (.iload_n 2, 1) := by decide +kernel
theorem dX7_leastToSend_39 : decode cX7_leastToSend 39 = .ok (.iload_n 3, 1) := by decide +kernel
theorem dX7_leastToSend_40 : decode cX7_leastToSend 40 = .ok (.iconst 1, 1) := by decide +kernel
theorem dX7_leastToSend_41 : decode cX7_leastToSend 41 = .ok (.iload 5, 2) := by decide +kernel
theorem dX7_leastToSend_43 : decode cX7_leastToSend 43 = .ok (.ishl, 1) := by decide +kernel
theorem dX7_leastToSend_44 : decode cX7_leastToSend 44 = .ok (.ior, 1) := by decide +kernel
theorem dX7_leastToSend_45 : decode cX7_leastToSend 45 = .ok (.invokevirtual 236, 3) := by decide +kernel
theorem dX7_leastToSend_48 : decode cX7_leastToSend 48 = .ok (.ifCond .eq 6, 3) := by decide +kernel
theorem dX7_leastToSend_51 : decode cX7_leastToSend 51 = .ok (.iload 5, 2) := by decide +kernel
theorem dX7_leastToSend_53 : decode cX7_leastToSend 53 = .ok (.ireturn, 1) := by decide +kernel
theorem dX7_leastToSend_54 : decode cX7_leastToSend 54 = .ok (.iinc 5 1, 3) := by decide +kernel
theorem dX7_leastToSend_57 : decode cX7_leastToSend 57 = .ok (.goto (-40), 3) := by decide +kernel
theorem dX7_leastToSend_60 : decode cX7_leastToSend 60 = .ok (.iconst (-1), 1) := by decide +kernel
theorem dX7_leastToSend_61 : decode cX7_leastToSend 61 = .ok (.ireturn, 1) := by decide +kernel
set_option maxRecDepth 20000 in
theorem ggX7_canFill_X7_holds : GoodIn wsX7_canFill wsX7_holds := goodIn_r _ [5] (by decide +kernel) (by decide +kernel)
set_option maxRecDepth 20000 in
theorem gX7_canFill_X7_holds : GoodIn wsX7_canFill (va_wsS RX7 233 yX7_holds wsX7_holds) := goodIn_app (goodIn_of _ (by decide +kernel)) ggX7_canFill_X7_holds
set_option maxRecDepth 20000 in
theorem ggX7_canFill_X7_at : GoodIn wsX7_canFill wsX7_at := goodIn_r _ [8] (by decide +kernel) (by decide +kernel)
set_option maxRecDepth 20000 in
theorem gX7_canFill_X7_at : GoodIn wsX7_canFill (va_wsS RX7 139 yX7_at wsX7_at) := goodIn_app (goodIn_of _ (by decide +kernel)) ggX7_canFill_X7_at
set_option maxRecDepth 20000 in
theorem ggX7_canFill_J6_bitCount_0f7a4 : GoodIn wsX7_canFill wsJ6_bitCount_0f7a4 := goodIn_r _ [12, 13, 14, 15] (by decide +kernel) (by decide +kernel)
set_option maxRecDepth 20000 in
theorem gX7_canFill_J6_bitCount_0f7a4 : GoodIn wsX7_canFill (va_wsS RX7 203 yJ6_bitCount_0f7a4 wsJ6_bitCount_0f7a4) := goodIn_app (goodIn_of _ (by decide +kernel)) ggX7_canFill_J6_bitCount_0f7a4
theorem dX7_canFill_0 : decode cX7_canFill 0 = .ok (.iconst 1, 1) := by decide +kernel
theorem dX7_canFill_1 : decode cX7_canFill 1 = .ok (.iload_n 2, 1) := by decide +kernel
theorem dX7_canFill_2 : decode cX7_canFill 2 = .ok (.iload_n 1, 1) := by decide +kernel
theorem dX7_canFill_3 : decode cX7_canFill 3 = .ok (.isub, 1) := by decide +kernel
theorem dX7_canFill_4 : decode cX7_canFill 4 = .ok (.ishl, 1) := by decide +kernel
theorem dX7_canFill_5 : decode cX7_canFill 5 = .ok (.istore 4, 2) := by decide +kernel
theorem dX7_canFill_7 : decode cX7_canFill 7 = .ok (.iconst 1, 1) := by decide +kernel
theorem dX7_canFill_8 : decode cX7_canFill 8 = .ok (.istore 5, 2) := by decide +kernel
theorem dX7_canFill_10 : decode cX7_canFill 10 = .ok (.iload 5, 2) := by decide +kernel
theorem dX7_canFill_12 : decode cX7_canFill 12 = .ok (.iload 4, 2) := by decide +kernel
theorem dX7_canFill_14 : decode cX7_canFill 14 = .ok (.if_icmp .ge 72, 3) := by decide +kernel
theorem dX7_canFill_17 : decode cX7_canFill 17 = .ok (.iconst 0, 1) := by decide +kernel
theorem dX7_canFill_18 : decode cX7_canFill 18 = .ok (.istore 6, 2) := by decide +kernel
theorem dX7_canFill_20 : decode cX7_canFill 20 = .ok (.iload_n 1, 1) := by decide +kernel
theorem dX7_canFill_21 : decode cX7_canFill 21 = .ok (.istore 7, 2) := by decide +kernel
theorem dX7_canFill_23 : decode cX7_canFill 23 = .ok (.iload 7, 2) := by decide +kernel
theorem dX7_canFill_25 : decode cX7_canFill 25 = .ok (.iload_n 2, 1) := by decide +kernel
theorem dX7_canFill_26 : decode cX7_canFill 26 = .ok (.if_icmp .ge 39, 3) := by decide +kernel
theorem dX7_canFill_29 : decode cX7_canFill 29 = .ok (.iload 5, 2) := by decide +kernel
theorem dX7_canFill_31 : decode cX7_canFill 31 = .ok (.iload 7, 2) := by decide +kernel
theorem dX7_canFill_33 : decode cX7_canFill 33 = .ok (.iload_n 1, 1) := by decide +kernel
theorem dX7_canFill_34 : decode cX7_canFill 34 = .ok (.isub, 1) := by decide +kernel
theorem dX7_canFill_35 : decode cX7_canFill 35 = .ok (.invokestatic 233, 3) := by decide +kernel
theorem dX7_canFill_38 : decode cX7_canFill 38 = .ok (.ifCond .eq 21, 3) := by decide +kernel
theorem dX7_canFill_41 : decode cX7_canFill 41 = .ok (.iload 6, 2) := by decide +kernel
theorem dX7_canFill_43 : decode cX7_canFill 43 = .ok (.aload_n 0, 1) := by decide +kernel
theorem dX7_canFill_44 : decode cX7_canFill 44 = .ok (.getfield 54, 3) := by decide +kernel
theorem dX7_canFill_47 : decode cX7_canFill 47 = .ok (.iload 7, 2) := by decide +kernel
theorem dX7_canFill_49 : decode cX7_canFill 49 = .ok (.invokestatic 139, 3) := by decide +kernel
theorem dX7_canFill_52 : decode cX7_canFill 52 = .ok (.iload_n 3, 1) := by decide +kernel
theorem dX7_canFill_53 : decode cX7_canFill 53 = .ok (.iconst (-1), 1) := by decide +kernel
theorem dX7_canFill_54 : decode cX7_canFill 54 = .ok (.ixor, 1) := by decide +kernel
theorem dX7_canFill_55 : decode cX7_canFill 55 = .ok (.iand, 1) := by decide +kernel
theorem dX7_canFill_56 : decode cX7_canFill 56 = .ok (.ior, 1) := by decide +kernel
theorem dX7_canFill_57 : decode cX7_canFill 57 = .ok (.istore 6, 2) := by decide +kernel
theorem dX7_canFill_59 : decode cX7_canFill 59 = .ok (.iinc 7 1, 3) := by decide +kernel
theorem dX7_canFill_62 : decode cX7_canFill 62 = .ok (.goto (-39), 3) := by decide +kernel
theorem dX7_canFill_65 : decode cX7_canFill 65 = .ok (.iload 6, 2) := by decide +kernel
theorem dX7_canFill_67 : decode cX7_canFill 67 = .ok (.invokestatic 203, 3) := by decide +kernel
theorem dX7_canFill_70 : decode cX7_canFill 70 = .ok (.iload 5, 2) := by decide +kernel
theorem dX7_canFill_72 : decode cX7_canFill 72 = .ok (.invokestatic 203, 3) := by decide +kernel
theorem dX7_canFill_75 : decode cX7_canFill 75 = .ok (.if_icmp .ge 5, 3) := by decide +kernel
theorem dX7_canFill_78 : decode cX7_canFill 78 = .ok (.iconst 0, 1) := by decide +kernel
theorem dX7_canFill_79 : decode cX7_canFill 79 = .ok (.ireturn, 1) := by decide +kernel
theorem dX7_canFill_80 : decode cX7_canFill 80 = .ok (.iinc 5 1, 3) := by decide +kernel
theorem dX7_canFill_83 : decode cX7_canFill 83 = .ok (.goto (-73), 3) := by decide +kernel
theorem dX7_canFill_86 : decode cX7_canFill 86 = .ok (.iconst 1, 1) := by decide +kernel
theorem dX7_canFill_87 : decode cX7_canFill 87 = .ok (.ireturn, 1) := by decide +kernel
set_option maxRecDepth 20000 in
theorem ggX7_byMarks_X7_within : GoodIn wsX7_byMarks wsX7_within := goodIn_r _ [7] (by decide +kernel) (by decide +kernel)
set_option maxRecDepth 20000 in
theorem gX7_byMarks_X7_within : GoodIn wsX7_byMarks (va_wsS RX7 72 yX7_within wsX7_within) := goodIn_app (goodIn_of _ (by decide +kernel)) ggX7_byMarks_X7_within
set_option maxRecDepth 20000 in
theorem ggX7_byMarks_X7_at : GoodIn wsX7_byMarks wsX7_at := goodIn_r _ [10] (by decide +kernel) (by decide +kernel)
set_option maxRecDepth 20000 in
theorem gX7_byMarks_X7_at : GoodIn wsX7_byMarks (va_wsS RX7 139 yX7_at wsX7_at) := goodIn_app (goodIn_of _ (by decide +kernel)) ggX7_byMarks_X7_at
set_option maxRecDepth 20000 in
theorem ggX7_byMarks_X1_lives : GoodIn wsX7_byMarks wsX1_lives := goodIn_r _ [15, 16, 17, 6, 18, 30, 31, 32, 33, 34, 35] (by decide +kernel) (by decide +kernel)
set_option maxRecDepth 20000 in
theorem gX7_byMarks_X1_lives : GoodIn wsX7_byMarks (wsV RX7 152 RX1 yX1_lives wsX1_lives) := goodIn_app (goodIn_of _ (by decide +kernel)) ggX7_byMarks_X1_lives
theorem dX7_byMarks_0 : decode cX7_byMarks 0 = .ok (.iload_n 1, 1) := by decide +kernel
theorem dX7_byMarks_1 : decode cX7_byMarks 1 = .ok (.iconst 0, 1) := by decide +kernel
theorem dX7_byMarks_2 : decode cX7_byMarks 2 = .ok (.sipush 255, 3) := by decide +kernel
theorem dX7_byMarks_5 : decode cX7_byMarks 5 = .ok (.invokestatic 72, 3) := by decide +kernel
theorem dX7_byMarks_8 : decode cX7_byMarks 8 = .ok (.ifCond .eq 14, 3) := by decide +kernel
theorem dX7_byMarks_11 : decode cX7_byMarks 11 = .ok (.iload_n 2, 1) := by decide +kernel
theorem dX7_byMarks_12 : decode cX7_byMarks 12 = .ok (.iconst 0, 1) := by decide +kernel
theorem dX7_byMarks_13 : decode cX7_byMarks 13 = .ok (.sipush 255, 3) := by decide +kernel
theorem dX7_byMarks_16 : decode cX7_byMarks 16 = .ok (.invokestatic 72, 3) := by decide +kernel
theorem dX7_byMarks_19 : decode cX7_byMarks 19 = .ok (.ifCond .ne 6, 3) := by decide +kernel
theorem dX7_byMarks_22 : decode cX7_byMarks 22 = .ok (.ldc 76, 2) := by decide +kernel
theorem dX7_byMarks_24 : decode cX7_byMarks 24 = .ok (.ireturn, 1) := by decide +kernel
theorem dX7_byMarks_25 : decode cX7_byMarks 25 = .ok (.iconst 0, 1) := by decide +kernel
theorem dX7_byMarks_26 : decode cX7_byMarks 26 = .ok (.istore_n 3, 1) := by decide +kernel
theorem dX7_byMarks_27 : decode cX7_byMarks 27 = .ok (.iconst 0, 1) := by decide +kernel
theorem dX7_byMarks_28 : decode cX7_byMarks 28 = .ok (.istore 4, 2) := by decide +kernel
theorem dX7_byMarks_30 : decode cX7_byMarks 30 = .ok (.iload 4, 2) := by decide +kernel
theorem dX7_byMarks_32 : decode cX7_byMarks 32 = .ok (.bipush 8, 2) := by decide +kernel
theorem dX7_byMarks_34 : decode cX7_byMarks 34 = .ok (.if_icmp .ge 57, 3) := by decide +kernel
theorem dX7_byMarks_37 : decode cX7_byMarks 37 = .ok (.aload_n 0, 1) := by decide +kernel
theorem dX7_byMarks_38 : decode cX7_byMarks 38 = .ok (.getfield 19, 3) := by decide +kernel
theorem dX7_byMarks_41 : decode cX7_byMarks 41 = .ok (.getfield 136, 3) := by decide +kernel
theorem dX7_byMarks_44 : decode cX7_byMarks 44 = .ok (.iload 4, 2) := by decide +kernel
theorem dX7_byMarks_46 : decode cX7_byMarks 46 = .ok (.invokestatic 139, 3) := by decide +kernel
theorem dX7_byMarks_49 : decode cX7_byMarks 49 = .ok (.istore 5, 2) := by decide +kernel
theorem dX7_byMarks_51 : decode cX7_byMarks 51 = .ok (.aload_n 0, 1) := by decide +kernel
theorem dX7_byMarks_52 : decode cX7_byMarks 52 = .ok (.getfield 19, 3) := by decide +kernel
theorem dX7_byMarks_55 : decode cX7_byMarks 55 = .ok (.iload 4, 2) := by decide +kernel
theorem dX7_byMarks_57 : decode cX7_byMarks 57 = .ok (.invokevirtual 152, 3) := by decide +kernel
theorem dX7_byMarks_60 : decode cX7_byMarks 60 = .ok (.ifCond .eq 25, 3) := by decide +kernel
theorem dX7_byMarks_63 : decode cX7_byMarks 63 = .ok (.iload 5, 2) := by decide +kernel
theorem dX7_byMarks_65 : decode cX7_byMarks 65 = .ok (.iload_n 1, 1) := by decide +kernel
theorem dX7_byMarks_66 : decode cX7_byMarks 66 = .ok (.iand, 1) := by decide +kernel
theorem dX7_byMarks_67 : decode cX7_byMarks 67 = .ok (.iload_n 1, 1) := by decide +kernel
theorem dX7_byMarks_68 : decode cX7_byMarks 68 = .ok (.if_icmp .ne 17, 3) := by decide +kernel
theorem dX7_byMarks_71 : decode cX7_byMarks 71 = .ok (.iload 5, 2) := by decide +kernel
theorem dX7_byMarks_73 : decode cX7_byMarks 73 = .ok (.iload_n 2, 1) := by decide +kernel
theorem dX7_byMarks_74 : decode cX7_byMarks 74 = .ok (.iand, 1) := by decide +kernel
theorem dX7_byMarks_75 : decode cX7_byMarks 75 = .ok (.ifCond .ne 10, 3) := by decide +kernel
theorem dX7_byMarks_78 : decode cX7_byMarks 78 = .ok (.iload_n 3, 1) := by decide +kernel
theorem dX7_byMarks_79 : decode cX7_byMarks 79 = .ok (.iconst 1, 1) := by decide +kernel
theorem dX7_byMarks_80 : decode cX7_byMarks 80 = .ok (.iload 4, 2) := by decide +kernel
theorem dX7_byMarks_82 : decode cX7_byMarks 82 = .ok (.ishl, 1) := by decide +kernel
theorem dX7_byMarks_83 : decode cX7_byMarks 83 = .ok (.ior, 1) := by decide +kernel
theorem dX7_byMarks_84 : decode cX7_byMarks 84 = .ok (.istore_n 3, 1) := by decide +kernel
theorem dX7_byMarks_85 : decode cX7_byMarks 85 = .ok (.iinc 4 1, 3) := by decide +kernel
theorem dX7_byMarks_88 : decode cX7_byMarks 88 = .ok (.goto (-58), 3) := by decide +kernel
theorem dX7_byMarks_91 : decode cX7_byMarks 91 = .ok (.iload_n 3, 1) := by decide +kernel
theorem dX7_byMarks_92 : decode cX7_byMarks 92 = .ok (.ireturn, 1) := by decide +kernel
set_option maxRecDepth 20000 in
theorem ggX7_diedAt_X1_has : GoodIn wsX7_diedAt wsX1_has := goodIn_r _ [8, 9, 40, 41, 42, 43, 44, 45] (by decide +kernel) (by decide +kernel)
set_option maxRecDepth 20000 in
theorem gX7_diedAt_X1_has : GoodIn wsX7_diedAt (wsV RX7 132 RX1 yX1_has wsX1_has) := goodIn_app (goodIn_of _ (by decide +kernel)) ggX7_diedAt_X1_has
set_option maxRecDepth 20000 in
theorem ggX7_diedAt_X1_lives : GoodIn wsX7_diedAt wsX1_lives := goodIn_r _ [13, 14, 15, 16, 17, 40, 41, 42, 43, 44, 45] (by decide +kernel) (by decide +kernel)
set_option maxRecDepth 20000 in
theorem gX7_diedAt_X1_lives : GoodIn wsX7_diedAt (wsV RX7 152 RX1 yX1_lives wsX1_lives) := goodIn_app (goodIn_of _ (by decide +kernel)) ggX7_diedAt_X1_lives
set_option maxRecDepth 20000 in
theorem ggX7_diedAt_X1_aheadOf : GoodIn wsX7_diedAt wsX1_aheadOf := goodIn_r _ [21, 14, 22, 23, 24, 25, 26, 27, 28, 40, 41, 42, 43, 44, 45] (by decide +kernel) (by decide +kernel)
set_option maxRecDepth 20000 in
theorem gX7_diedAt_X1_aheadOf : GoodIn wsX7_diedAt (wsV RX7 155 RX1 yX1_aheadOf wsX1_aheadOf) := goodIn_app (goodIn_of _ (by decide +kernel)) ggX7_diedAt_X1_aheadOf
theorem dX7_diedAt_0 : decode cX7_diedAt 0 = .ok (.aload_n 0, 1) := by decide +kernel
theorem dX7_diedAt_1 : decode cX7_diedAt 1 = .ok (.getfield 19, 3) := by decide +kernel
theorem dX7_diedAt_4 : decode cX7_diedAt 4 = .ok (.iload_n 1, 1) := by decide +kernel
theorem dX7_diedAt_5 : decode cX7_diedAt 5 = .ok (.invokevirtual 132, 3) := by decide +kernel
theorem dX7_diedAt_8 : decode cX7_diedAt 8 = .ok (.ifCond .ne 6, 3) := by decide +kernel
theorem dX7_diedAt_11 : decode cX7_diedAt 11 = .ok (.ldc 135, 2) := by decide +kernel
theorem dX7_diedAt_13 : decode cX7_diedAt 13 = .ok (.ireturn, 1) := by decide +kernel
theorem dX7_diedAt_14 : decode cX7_diedAt 14 = .ok (.aload_n 0, 1) := by decide +kernel
theorem dX7_diedAt_15 : decode cX7_diedAt 15 = .ok (.getfield 19, 3) := by decide +kernel
theorem dX7_diedAt_18 : decode cX7_diedAt 18 = .ok (.iload_n 1, 1) := by decide +kernel
theorem dX7_diedAt_19 : decode cX7_diedAt 19 = .ok (.invokevirtual 152, 3) := by decide +kernel
theorem dX7_diedAt_22 : decode cX7_diedAt 22 = .ok (.ifCond .eq 8, 3) := by decide +kernel
theorem dX7_diedAt_25 : decode cX7_diedAt 25 = .ok (.ldc 192, 2) := by decide +kernel
theorem dX7_diedAt_27 : decode cX7_diedAt 27 = .ok (.goto 11, 3) := by decide +kernel
theorem dX7_diedAt_30 : decode cX7_diedAt 30 = .ok (.aload_n 0, 1) := by decide +kernel
theorem dX7_diedAt_31 : decode cX7_diedAt 31 = .ok (.getfield 19, 3) := by decide +kernel
theorem dX7_diedAt_34 : decode cX7_diedAt 34 = .ok (.iload_n 1, 1) := by decide +kernel
theorem dX7_diedAt_35 : decode cX7_diedAt 35 = .ok (.invokevirtual 155, 3) := by decide +kernel
theorem dX7_diedAt_38 : decode cX7_diedAt 38 = .ok (.ireturn, 1) := by decide +kernel
set_option maxRecDepth 20000 in
theorem ggX7_classes_X1_countClasses : GoodIn wsX7_classes wsX1_countClasses := goodIn_r _ [7, 8, 9, 10, 6, 11, 12, 13, 14, 15, 16, 17, 18, 19, 20, 21, 22, 23, 24, 43, 44, 45, 46, 47, 48] (by decide +kernel) (by decide +kernel)
set_option maxRecDepth 20000 in
theorem gX7_classes_X1_countClasses : GoodIn wsX7_classes (wsV RX7 239 RX1 yX1_countClasses wsX1_countClasses) := goodIn_app (goodIn_of _ (by decide +kernel)) ggX7_classes_X1_countClasses
set_option maxRecDepth 20000 in
theorem ggX7_classes_X1_has : GoodIn wsX7_classes wsX1_has := goodIn_r _ [28, 29, 43, 44, 45, 46, 47, 48] (by decide +kernel) (by decide +kernel)
set_option maxRecDepth 20000 in
theorem gX7_classes_X1_has : GoodIn wsX7_classes (wsV RX7 132 RX1 yX1_has wsX1_has) := goodIn_app (goodIn_of _ (by decide +kernel)) ggX7_classes_X1_has
set_option maxRecDepth 20000 in
theorem ggX7_classes_X1_lives : GoodIn wsX7_classes wsX1_lives := goodIn_r _ [11, 12, 13, 14, 15, 43, 44, 45, 46, 47, 48] (by decide +kernel) (by decide +kernel)
set_option maxRecDepth 20000 in
theorem gX7_classes_X1_lives : GoodIn wsX7_classes (wsV RX7 152 RX1 yX1_lives wsX1_lives) := goodIn_app (goodIn_of _ (by decide +kernel)) ggX7_classes_X1_lives
set_option maxRecDepth 20000 in
theorem ggX7_classes_X1_alike : GoodIn wsX7_classes wsX1_alike := goodIn_r _ [19, 20, 8, 9, 10, 6, 11, 12, 13, 14, 15, 21, 22, 43, 44, 45, 46, 47, 48] (by decide +kernel) (by decide +kernel)
set_option maxRecDepth 20000 in
theorem gX7_classes_X1_alike : GoodIn wsX7_classes (wsV RX7 242 RX1 yX1_alike wsX1_alike) := goodIn_app (goodIn_of _ (by decide +kernel)) ggX7_classes_X1_alike
theorem dX7_classes_0 : decode cX7_classes 0 = .ok (.iload_n 1, 1) := by decide +kernel
theorem dX7_classes_1 : decode cX7_classes 1 = .ok (.iconst (-1), 1) := by decide +kernel
theorem dX7_classes_2 : decode cX7_classes 2 = .ok (.if_icmp .ne 11, 3) := by decide +kernel
theorem dX7_classes_5 : decode cX7_classes 5 = .ok (.aload_n 0, 1) := by decide +kernel
theorem dX7_classes_6 : decode cX7_classes 6 = .ok (.getfield 19, 3) := by decide +kernel
theorem dX7_classes_9 : decode cX7_classes 9 = .ok (.invokevirtual 239, 3) := by decide +kernel
theorem dX7_classes_12 : decode cX7_classes 12 = .ok (.ireturn, 1) := by decide +kernel
theorem dX7_classes_13 : decode cX7_classes 13 = .ok (.aload_n 0, 1) := by decide +kernel
theorem dX7_classes_14 : decode cX7_classes 14 = .ok (.getfield 19, 3) := by decide +kernel
theorem dX7_classes_17 : decode cX7_classes 17 = .ok (.iload_n 1, 1) := by decide +kernel
theorem dX7_classes_18 : decode cX7_classes 18 = .ok (.invokevirtual 132, 3) := by decide +kernel
theorem dX7_classes_21 : decode cX7_classes 21 = .ok (.ifCond .ne 6, 3) := by decide +kernel
theorem dX7_classes_24 : decode cX7_classes 24 = .ok (.ldc 135, 2) := by decide +kernel
theorem dX7_classes_26 : decode cX7_classes 26 = .ok (.ireturn, 1) := by decide +kernel
theorem dX7_classes_27 : decode cX7_classes 27 = .ok (.aload_n 0, 1) := by decide +kernel
theorem dX7_classes_28 : decode cX7_classes 28 = .ok (.getfield 19, 3) := by decide +kernel
theorem dX7_classes_31 : decode cX7_classes 31 = .ok (.iload_n 1, 1) := by decide +kernel
theorem dX7_classes_32 : decode cX7_classes 32 = .ok (.invokevirtual 152, 3) := by decide +kernel
theorem dX7_classes_35 : decode cX7_classes 35 = .ok (.ifCond .eq 14, 3) := by decide +kernel
theorem dX7_classes_38 : decode cX7_classes 38 = .ok (.aload_n 0, 1) := by decide +kernel
theorem dX7_classes_39 : decode cX7_classes 39 = .ok (.getfield 19, 3) := by decide +kernel
theorem dX7_classes_42 : decode cX7_classes 42 = .ok (.iload_n 1, 1) := by decide +kernel
theorem dX7_classes_43 : decode cX7_classes 43 = .ok (.invokevirtual 242, 3) := by decide +kernel
theorem dX7_classes_46 : decode cX7_classes 46 = .ok (.goto 4, 3) := by decide +kernel
theorem dX7_classes_49 : decode cX7_classes 49 = .ok (.iconst 0, 1) := by decide +kernel
theorem dX7_classes_50 : decode cX7_classes 50 = .ok (.ireturn, 1) := by decide +kernel
set_option maxRecDepth 20000 in
theorem ggX7_tell_J6_bitCount_0f7a4 : GoodIn wsX7_tell wsJ6_bitCount_0f7a4 := goodIn_r _ [6, 7, 8, 9] (by decide +kernel) (by decide +kernel)
set_option maxRecDepth 20000 in
theorem gX7_tell_J6_bitCount_0f7a4 : GoodIn wsX7_tell (va_wsS RX7 203 yJ6_bitCount_0f7a4 wsJ6_bitCount_0f7a4) := goodIn_app (goodIn_of _ (by decide +kernel)) ggX7_tell_J6_bitCount_0f7a4
set_option maxRecDepth 20000 in
theorem ggX7_tell_X1_isToldBy : GoodIn wsX7_tell wsX1_isToldBy := goodIn_r _ [14, 15, 16, 17, 13, 18, 19, 20, 21, 22, 23, 24, 25, 26, 27, 4, 5, 6, 7, 8, 9, 28, 29, 30, 31, 32, 33, 34, 46, 47, 48, 49, 50, 51] (by decide +kernel) (by decide +kernel)
set_option maxRecDepth 20000 in
theorem gX7_tell_X1_isToldBy : GoodIn wsX7_tell (wsV RX7 245 RX1 yX1_isToldBy wsX1_isToldBy) := goodIn_app (goodIn_of _ (by decide +kernel)) ggX7_tell_X1_isToldBy
theorem dX7_tell_0 : decode cX7_tell 0 = .ok (.aload_n 0, 1) := by decide +kernel
theorem dX7_tell_1 : decode cX7_tell 1 = .ok (.getfield 19, 3) := by decide +kernel
theorem dX7_tell_4 : decode cX7_tell 4 = .ok (.getfield 118, 3) := by decide +kernel
theorem dX7_tell_7 : decode cX7_tell 7 = .ok (.ifCond .ne 5, 3) := by decide +kernel
theorem dX7_tell_10 : decode cX7_tell 10 = .ok (.iconst (-1), 1) := by decide +kernel
theorem dX7_tell_11 : decode cX7_tell 11 = .ok (.ireturn, 1) := by decide +kernel
theorem dX7_tell_12 : decode cX7_tell 12 = .ok (.iconst (-1), 1) := by decide +kernel
theorem dX7_tell_13 : decode cX7_tell 13 = .ok (.istore_n 2, 1) := by decide +kernel
theorem dX7_tell_14 : decode cX7_tell 14 = .ok (.iconst 0, 1) := by decide +kernel
theorem dX7_tell_15 : decode cX7_tell 15 = .ok (.istore_n 3, 1) := by decide +kernel
theorem dX7_tell_16 : decode cX7_tell 16 = .ok (.iload_n 3, 1) := by decide +kernel
theorem dX7_tell_17 : decode cX7_tell 17 = .ok (.sipush 255, 3) := by decide +kernel
theorem dX7_tell_20 : decode cX7_tell 20 = .ok (.if_icmp .gt 51, 3) := by decide +kernel
theorem dX7_tell_23 : decode cX7_tell 23 = .ok (.iload_n 2, 1) := by decide +kernel
theorem dX7_tell_24 : decode cX7_tell 24 = .ok (.iconst (-1), 1) := by decide +kernel
theorem dX7_tell_25 : decode cX7_tell 25 = .ok (.if_icmp .eq 14, 3) := by decide +kernel
theorem dX7_tell_28 : decode cX7_tell 28 = .ok (.iload_n 3, 1) := by decide +kernel
theorem dX7_tell_29 : decode cX7_tell 29 = .ok (.invokestatic 203, 3) := by decide +kernel
theorem dX7_tell_32 : decode cX7_tell 32 = .ok (.iload_n 2, 1) := by decide +kernel
theorem dX7_tell_33 : decode cX7_tell 33 = .ok (.invokestatic 203, 3) := by decide +kernel
theorem dX7_tell_36 : decode cX7_tell 36 = .ok (.if_icmp .ge 7, 3) := by decide +kernel
theorem dX7_tell_39 : decode cX7_tell 39 = .ok (.iconst 1, 1) := by decide +kernel
theorem dX7_tell_40 : decode cX7_tell 40 = .ok (.goto 4, 3) := by decide +kernel
theorem dX7_tell_43 : decode cX7_tell 43 = .ok (.iconst 0, 1) := by decide +kernel
theorem dX7_tell_44 : decode cX7_tell 44 = .ok (.istore 4, 2) := by decide +kernel
theorem dX7_tell_46 : decode cX7_tell 46 = .ok (.iload 4, 2) := by decide +kernel
theorem dX7_tell_48 : decode cX7_tell 48 = .ok (.ifCond .eq 17, 3) := by decide +kernel
theorem dX7_tell_51 : decode cX7_tell 51 = .ok (.aload_n 0, 1) := by decide +kernel
theorem dX7_tell_52 : decode cX7_tell 52 = .ok (.getfield 19, 3) := by decide +kernel
theorem dX7_tell_55 : decode cX7_tell 55 = .ok (.iload_n 3, 1) := by decide +kernel
theorem dX7_tell_56 : decode cX7_tell 56 = .ok (.iload_n 1, 1) := by decide +kernel
theorem dX7_tell_57 : decode cX7_tell 57 = .ok (.invokevirtual 245, 3) := by decide +kernel
theorem dX7_tell_60 : decode cX7_tell 60 = .ok (.ifCond .eq 5, 3) := by decide +kernel
theorem dX7_tell_63 : decode cX7_tell 63 = .ok (.iload_n 3, 1) := by decide +kernel
theorem dX7_tell_64 : decode cX7_tell 64 = .ok (.istore_n 2, 1) := by decide +kernel
theorem dX7_tell_65 : decode cX7_tell 65 = .ok (.iinc 3 1, 3) := by decide +kernel
theorem dX7_tell_68 : decode cX7_tell 68 = .ok (.goto (-52), 3) := by decide +kernel
theorem dX7_tell_71 : decode cX7_tell 71 = .ok (.iload_n 2, 1) := by decide +kernel
theorem dX7_tell_72 : decode cX7_tell 72 = .ok (.ireturn, 1) := by decide +kernel
set_option maxRecDepth 20000 in
theorem ggX7_reign_X1_seenOn : GoodIn wsX7_reign wsX1_seenOn := goodIn_r _ [12, 13, 14, 15, 16, 17, 18, 19, 20, 21, 22, 23, 24, 25, 26, 27, 28, 29, 30, 31, 32, 33, 34, 35, 36, 37, 38, 39, 11, 40, 41, 42, 43, 44, 45, 46, 47, 48, 49, 50, 51, 52, 53, 54, 77, 78, 79, 80, 81, 82, 83, 84, 85, 86, 87, 88, 89, 90, 91, 92] (by decide +kernel) (by decide +kernel)
set_option maxRecDepth 20000 in
theorem gX7_reign_X1_seenOn : GoodIn wsX7_reign (wsV RX7 124 RX1 yX1_seenOn wsX1_seenOn) := goodIn_app (goodIn_of _ (by decide +kernel)) ggX7_reign_X1_seenOn
set_option maxRecDepth 20000 in
theorem ggX7_reign_X1_aheadOf : GoodIn wsX7_reign wsX1_aheadOf := goodIn_r _ [58, 45, 59, 60, 61, 62, 63, 64, 65, 87, 88, 89, 90, 91, 92] (by decide +kernel) (by decide +kernel)
set_option maxRecDepth 20000 in
theorem gX7_reign_X1_aheadOf : GoodIn wsX7_reign (wsV RX7 155 RX1 yX1_aheadOf wsX1_aheadOf) := goodIn_app (goodIn_of _ (by decide +kernel)) ggX7_reign_X1_aheadOf
theorem dX7_reign_0 : decode cX7_reign 0 = .ok (.iconst 0, 1) := by decide +kernel
theorem dX7_reign_1 : decode cX7_reign 1 = .ok (.istore_n 1, 1) := by decide +kernel
theorem dX7_reign_2 : decode cX7_reign 2 = .ok (.iconst 0, 1) := by decide +kernel
theorem dX7_reign_3 : decode cX7_reign 3 = .ok (.istore_n 2, 1) := by decide +kernel
theorem dX7_reign_4 : decode cX7_reign 4 = .ok (.iload_n 2, 1) := by decide +kernel
theorem dX7_reign_5 : decode cX7_reign 5 = .ok (.aload_n 0, 1) := by decide +kernel
theorem dX7_reign_6 : decode cX7_reign 6 = .ok (.getfield 61, 3) := by decide +kernel
theorem dX7_reign_9 : decode cX7_reign 9 = .ok (.getfield 114, 3) := by decide +kernel
theorem dX7_reign_12 : decode cX7_reign 12 = .ok (.if_icmp .ge 44, 3) := by decide +kernel
theorem dX7_reign_15 : decode cX7_reign 15 = .ok (.aload_n 0, 1) := by decide +kernel
theorem dX7_reign_16 : decode cX7_reign 16 = .ok (.getfield 19, 3) := by decide +kernel
theorem dX7_reign_19 : decode cX7_reign 19 = .ok (.aload_n 0, 1) := by decide +kernel
theorem dX7_reign_20 : decode cX7_reign 20 = .ok (.getfield 61, 3) := by decide +kernel
theorem dX7_reign_23 : decode cX7_reign 23 = .ok (.iload_n 2, 1) := by decide +kernel
theorem dX7_reign_24 : decode cX7_reign 24 = .ok (.invokevirtual 124, 3) := by decide +kernel
theorem dX7_reign_27 : decode cX7_reign 27 = .ok (.istore_n 3, 1) := by decide +kernel
theorem dX7_reign_28 : decode cX7_reign 28 = .ok (.iload_n 3, 1) := by decide +kernel
theorem dX7_reign_29 : decode cX7_reign 29 = .ok (.iconst (-1), 1) := by decide +kernel
theorem dX7_reign_30 : decode cX7_reign 30 = .ok (.if_icmp .ne 5, 3) := by decide +kernel
theorem dX7_reign_33 : decode cX7_reign 33 = .ok (.iconst (-1), 1) := by decide +kernel
theorem dX7_reign_34 : decode cX7_reign 34 = .ok (.ireturn, 1) := by decide +kernel
theorem dX7_reign_35 : decode cX7_reign 35 = .ok (.iload_n 1, 1) := by decide +kernel
theorem dX7_reign_36 : decode cX7_reign 36 = .ok (.aload_n 0, 1) := by decide +kernel
theorem dX7_reign_37 : decode cX7_reign 37 = .ok (.getfield 19, 3) := by decide +kernel
theorem dX7_reign_40 : decode cX7_reign 40 = .ok (.iload_n 3, 1) := by decide +kernel
theorem dX7_reign_41 : decode cX7_reign 41 = .ok (.invokevirtual 155, 3) := by decide +kernel
theorem dX7_reign_44 : decode cX7_reign 44 = .ok (.iconst 1, 1) := by decide +kernel
theorem dX7_reign_45 : decode cX7_reign 45 = .ok (.iadd, 1) := by decide +kernel
theorem dX7_reign_46 : decode cX7_reign 46 = .ok (.invokestatic 249, 3) := by decide +kernel
theorem dX7_reign_49 : decode cX7_reign 49 = .ok (.istore_n 1, 1) := by decide +kernel
theorem dX7_reign_50 : decode cX7_reign 50 = .ok (.iinc 2 1, 3) := by decide +kernel
theorem dX7_reign_53 : decode cX7_reign 53 = .ok (.goto (-49), 3) := by decide +kernel
theorem dX7_reign_56 : decode cX7_reign 56 = .ok (.iload_n 1, 1) := by decide +kernel
theorem dX7_reign_57 : decode cX7_reign 57 = .ok (.ireturn, 1) := by decide +kernel
set_option maxRecDepth 20000 in
theorem ggX7_shownAll_X2_stands : GoodIn wsX7_shownAll wsX2_stands := goodIn_r _ [11, 12, 76, 77, 78, 79, 80, 81, 82, 83, 84, 85] (by decide +kernel) (by decide +kernel)
set_option maxRecDepth 20000 in
theorem gX7_shownAll_X2_stands : GoodIn wsX7_shownAll (wsV RX7 188 RX2 yX2_stands wsX2_stands) := goodIn_app (goodIn_of _ (by decide +kernel)) ggX7_shownAll_X2_stands
set_option maxRecDepth 20000 in
theorem ggX7_shownAll_X1_seenOn : GoodIn wsX7_shownAll wsX1_seenOn := goodIn_r _ [17, 18, 19, 20, 10, 21, 22, 23, 24, 25, 26, 27, 28, 29, 30, 31, 32, 33, 34, 35, 36, 37, 38, 39, 40, 41, 42, 43, 16, 44, 45, 46, 47, 48, 49, 50, 51, 52, 53, 54, 55, 56, 57, 58, 76, 77, 78, 79, 80, 81, 82, 83, 84, 85, 70, 71, 72, 73, 74, 75] (by decide +kernel) (by decide +kernel)
set_option maxRecDepth 20000 in
theorem gX7_shownAll_X1_seenOn : GoodIn wsX7_shownAll (wsV RX7 124 RX1 yX1_seenOn wsX1_seenOn) := goodIn_app (goodIn_of _ (by decide +kernel)) ggX7_shownAll_X1_seenOn
theorem dX7_shownAll_0 : decode cX7_shownAll 0 = .ok (.aload_n 0, 1) := by decide +kernel
theorem dX7_shownAll_1 : decode cX7_shownAll 1 = .ok (.getfield 61, 3) := by decide +kernel
theorem dX7_shownAll_4 : decode cX7_shownAll 4 = .ok (.invokevirtual 188, 3) := by decide +kernel
theorem dX7_shownAll_7 : decode cX7_shownAll 7 = .ok (.ifCond .ne 6, 3) := by decide +kernel
theorem dX7_shownAll_10 : decode cX7_shownAll 10 = .ok (.ldc 192, 2) := by decide +kernel
theorem dX7_shownAll_12 : decode cX7_shownAll 12 = .ok (.ireturn, 1) := by decide +kernel
theorem dX7_shownAll_13 : decode cX7_shownAll 13 = .ok (.aload_n 0, 1) := by decide +kernel
theorem dX7_shownAll_14 : decode cX7_shownAll 14 = .ok (.getfield 19, 3) := by decide +kernel
theorem dX7_shownAll_17 : decode cX7_shownAll 17 = .ok (.getfield 118, 3) := by decide +kernel
theorem dX7_shownAll_20 : decode cX7_shownAll 20 = .ok (.aload_n 0, 1) := by decide +kernel
theorem dX7_shownAll_21 : decode cX7_shownAll 21 = .ok (.getfield 19, 3) := by decide +kernel
theorem dX7_shownAll_24 : decode cX7_shownAll 24 = .ok (.getfield 121, 3) := by decide +kernel
theorem dX7_shownAll_27 : decode cX7_shownAll 27 = .ok (.iconst (-1), 1) := by decide +kernel
theorem dX7_shownAll_28 : decode cX7_shownAll 28 = .ok (.ixor, 1) := by decide +kernel
theorem dX7_shownAll_29 : decode cX7_shownAll 29 = .ok (.iand, 1) := by decide +kernel
theorem dX7_shownAll_30 : decode cX7_shownAll 30 = .ok (.istore_n 1, 1) := by decide +kernel
theorem dX7_shownAll_31 : decode cX7_shownAll 31 = .ok (.iconst 0, 1) := by decide +kernel
theorem dX7_shownAll_32 : decode cX7_shownAll 32 = .ok (.istore_n 2, 1) := by decide +kernel
theorem dX7_shownAll_33 : decode cX7_shownAll 33 = .ok (.iload_n 2, 1) := by decide +kernel
theorem dX7_shownAll_34 : decode cX7_shownAll 34 = .ok (.bipush 99, 2) := by decide +kernel
theorem dX7_shownAll_36 : decode cX7_shownAll 36 = .ok (.if_icmp .gt 49, 3) := by decide +kernel
theorem dX7_shownAll_39 : decode cX7_shownAll 39 = .ok (.iload_n 1, 1) := by decide +kernel
theorem dX7_shownAll_40 : decode cX7_shownAll 40 = .ok (.ifCond .ne 5, 3) := by decide +kernel
theorem dX7_shownAll_43 : decode cX7_shownAll 43 = .ok (.iload_n 2, 1) := by decide +kernel
theorem dX7_shownAll_44 : decode cX7_shownAll 44 = .ok (.ireturn, 1) := by decide +kernel
theorem dX7_shownAll_45 : decode cX7_shownAll 45 = .ok (.aload_n 0, 1) := by decide +kernel
theorem dX7_shownAll_46 : decode cX7_shownAll 46 = .ok (.getfield 19, 3) := by decide +kernel
theorem dX7_shownAll_49 : decode cX7_shownAll 49 = .ok (.aload_n 0, 1) := by decide +kernel
theorem dX7_shownAll_50 : decode cX7_shownAll 50 = .ok (.getfield 61, 3) := by decide +kernel
theorem dX7_shownAll_53 : decode cX7_shownAll 53 = .ok (.aload_n 0, 1) := by decide +kernel
theorem dX7_shownAll_54 : decode cX7_shownAll 54 = .ok (.getfield 19, 3) := by decide +kernel
theorem dX7_shownAll_57 : decode cX7_shownAll 57 = .ok (.getfield 117, 3) := by decide +kernel
theorem dX7_shownAll_60 : decode cX7_shownAll 60 = .ok (.iload_n 2, 1) := by decide +kernel
theorem dX7_shownAll_61 : decode cX7_shownAll 61 = .ok (.iadd, 1) := by decide +kernel
theorem dX7_shownAll_62 : decode cX7_shownAll 62 = .ok (.invokevirtual 124, 3) := by decide +kernel
theorem dX7_shownAll_65 : decode cX7_shownAll 65 = .ok (.istore_n 3, 1) := by decide +kernel
theorem dX7_shownAll_66 : decode cX7_shownAll 66 = .ok (.iload_n 3, 1) := by decide +kernel
theorem dX7_shownAll_67 : decode cX7_shownAll 67 = .ok (.iconst (-1), 1) := by decide +kernel
theorem dX7_shownAll_68 : decode cX7_shownAll 68 = .ok (.if_icmp .eq 11, 3) := by decide +kernel
theorem dX7_shownAll_71 : decode cX7_shownAll 71 = .ok (.iload_n 1, 1) := by decide +kernel
theorem dX7_shownAll_72 : decode cX7_shownAll 72 = .ok (.iconst 1, 1) := by decide +kernel
theorem dX7_shownAll_73 : decode cX7_shownAll 73 = .ok (.iload_n 3, 1) := by decide +kernel
theorem dX7_shownAll_74 : decode cX7_shownAll 74 = .ok (.ishl, 1) := by decide +kernel
theorem dX7_shownAll_75 : decode cX7_shownAll 75 = .ok (.iconst (-1), 1) := by decide +kernel
theorem dX7_shownAll_76 : decode cX7_shownAll 76 = .ok (.ixor, 1) := by decide +kernel
theorem dX7_shownAll_77 : decode cX7_shownAll 77 = .ok (.iand, 1) := by decide +kernel
theorem dX7_shownAll_78 : decode cX7_shownAll 78 = .ok (.istore_n 1, 1) := by decide +kernel
theorem dX7_shownAll_79 : decode cX7_shownAll 79 = .ok (.iinc 2 1, 3) := by decide +kernel
theorem dX7_shownAll_82 : decode cX7_shownAll 82 = .ok (.goto (-49), 3) := by decide +kernel
theorem dX7_shownAll_85 : decode cX7_shownAll 85 = .ok (.iconst (-1), 1) := by decide +kernel
theorem dX7_shownAll_86 : decode cX7_shownAll 86 = .ok (.ireturn, 1) := by decide +kernel
set_option maxRecDepth 20000 in
theorem ggX7_apart_X1_has : GoodIn wsX7_apart wsX1_has := goodIn_r _ [8, 9, 32, 33, 34, 35, 36, 37] (by decide +kernel) (by decide +kernel)
set_option maxRecDepth 20000 in
theorem gX7_apart_X1_has : GoodIn wsX7_apart (wsV RX7 132 RX1 yX1_has wsX1_has) := goodIn_app (goodIn_of _ (by decide +kernel)) ggX7_apart_X1_has
set_option maxRecDepth 20000 in
theorem ggX7_apart_X7_at : GoodIn wsX7_apart wsX7_at := goodIn_r _ [13] (by decide +kernel) (by decide +kernel)
set_option maxRecDepth 20000 in
theorem gX7_apart_X7_at : GoodIn wsX7_apart (va_wsS RX7 139 yX7_at wsX7_at) := goodIn_app (goodIn_of _ (by decide +kernel)) ggX7_apart_X7_at
set_option maxRecDepth 20000 in
theorem ggX7_apart_J6_bitCount_0f7a4 : GoodIn wsX7_apart wsJ6_bitCount_0f7a4 := goodIn_r _ [17, 18, 19, 20] (by decide +kernel) (by decide +kernel)
set_option maxRecDepth 20000 in
theorem gX7_apart_J6_bitCount_0f7a4 : GoodIn wsX7_apart (va_wsS RX7 203 yJ6_bitCount_0f7a4 wsJ6_bitCount_0f7a4) := goodIn_app (goodIn_of _ (by decide +kernel)) ggX7_apart_J6_bitCount_0f7a4
theorem dX7_apart_0 : decode cX7_apart 0 = .ok (.aload_n 0, 1) := by decide +kernel
theorem dX7_apart_1 : decode cX7_apart 1 = .ok (.getfield 19, 3) := by decide +kernel
theorem dX7_apart_4 : decode cX7_apart 4 = .ok (.iload_n 1, 1) := by decide +kernel
theorem dX7_apart_5 : decode cX7_apart 5 = .ok (.invokevirtual 132, 3) := by decide +kernel
theorem dX7_apart_8 : decode cX7_apart 8 = .ok (.ifCond .eq 19, 3) := by decide +kernel
theorem dX7_apart_11 : decode cX7_apart 11 = .ok (.aload_n 0, 1) := by decide +kernel
theorem dX7_apart_12 : decode cX7_apart 12 = .ok (.getfield 19, 3) := by decide +kernel
theorem dX7_apart_15 : decode cX7_apart 15 = .ok (.iload_n 2, 1) := by decide +kernel
theorem dX7_apart_16 : decode cX7_apart 16 = .ok (.invokevirtual 132, 3) := by decide +kernel
theorem dX7_apart_19 : decode cX7_apart 19 = .ok (.ifCond .eq 8, 3) := by decide +kernel
theorem dX7_apart_22 : decode cX7_apart 22 = .ok (.iload_n 1, 1) := by decide +kernel
theorem dX7_apart_23 : decode cX7_apart 23 = .ok (.iload_n 2, 1) := by decide +kernel
theorem dX7_apart_24 : decode cX7_apart 24 = .ok (.if_icmp .ne 6, 3) := by decide +kernel
theorem dX7_apart_27 : decode cX7_apart 27 = .ok (.ldc 135, 2) := by decide +kernel
theorem dX7_apart_29 : decode cX7_apart 29 = .ok (.ireturn, 1) := by decide +kernel
theorem dX7_apart_30 : decode cX7_apart 30 = .ok (.aload_n 0, 1) := by decide +kernel
theorem dX7_apart_31 : decode cX7_apart 31 = .ok (.getfield 19, 3) := by decide +kernel
theorem dX7_apart_34 : decode cX7_apart 34 = .ok (.getfield 136, 3) := by decide +kernel
theorem dX7_apart_37 : decode cX7_apart 37 = .ok (.iload_n 1, 1) := by decide +kernel
theorem dX7_apart_38 : decode cX7_apart 38 = .ok (.invokestatic 139, 3) := by decide +kernel
theorem dX7_apart_41 : decode cX7_apart 41 = .ok (.aload_n 0, 1) := by decide +kernel
theorem dX7_apart_42 : decode cX7_apart 42 = .ok (.getfield 19, 3) := by decide +kernel
theorem dX7_apart_45 : decode cX7_apart 45 = .ok (.getfield 136, 3) := by decide +kernel
theorem dX7_apart_48 : decode cX7_apart 48 = .ok (.iload_n 2, 1) := by decide +kernel
theorem dX7_apart_49 : decode cX7_apart 49 = .ok (.invokestatic 139, 3) := by decide +kernel
theorem dX7_apart_52 : decode cX7_apart 52 = .ok (.ixor, 1) := by decide +kernel
theorem dX7_apart_53 : decode cX7_apart 53 = .ok (.invokestatic 203, 3) := by decide +kernel
theorem dX7_apart_56 : decode cX7_apart 56 = .ok (.ireturn, 1) := by decide +kernel
set_option maxRecDepth 20000 in
theorem ggX7_safe_X7_within : GoodIn wsX7_safe wsX7_within := goodIn_r _ [14] (by decide +kernel) (by decide +kernel)
set_option maxRecDepth 20000 in
theorem gX7_safe_X7_within : GoodIn wsX7_safe (va_wsS RX7 72 yX7_within wsX7_within) := goodIn_app (goodIn_of _ (by decide +kernel)) ggX7_safe_X7_within
set_option maxRecDepth 20000 in
theorem ggX7_safe_X2_dangerOn : GoodIn wsX7_safe wsX2_dangerOn := goodIn_r _ [19, 20, 21, 22, 23, 18, 24, 25, 26, 13, 27, 45, 46, 47, 48, 49, 50, 51, 52, 53, 54] (by decide +kernel) (by decide +kernel)
set_option maxRecDepth 20000 in
theorem gX7_safe_X2_dangerOn : GoodIn wsX7_safe (wsV RX7 175 RX2 yX2_dangerOn wsX2_dangerOn) := goodIn_app (goodIn_of _ (by decide +kernel)) ggX7_safe_X2_dangerOn
theorem dX7_safe_0 : decode cX7_safe 0 = .ok (.iload_n 1, 1) := by decide +kernel
theorem dX7_safe_1 : decode cX7_safe 1 = .ok (.iconst 0, 1) := by decide +kernel
theorem dX7_safe_2 : decode cX7_safe 2 = .ok (.bipush 60, 2) := by decide +kernel
theorem dX7_safe_4 : decode cX7_safe 4 = .ok (.invokestatic 72, 3) := by decide +kernel
theorem dX7_safe_7 : decode cX7_safe 7 = .ok (.ifCond .eq 13, 3) := by decide +kernel
theorem dX7_safe_10 : decode cX7_safe 10 = .ok (.iload_n 2, 1) := by decide +kernel
theorem dX7_safe_11 : decode cX7_safe 11 = .ok (.iconst 0, 1) := by decide +kernel
theorem dX7_safe_12 : decode cX7_safe 12 = .ok (.bipush 100, 2) := by decide +kernel
theorem dX7_safe_14 : decode cX7_safe 14 = .ok (.invokestatic 72, 3) := by decide +kernel
theorem dX7_safe_17 : decode cX7_safe 17 = .ok (.ifCond .ne 6, 3) := by decide +kernel
theorem dX7_safe_20 : decode cX7_safe 20 = .ok (.ldc 76, 2) := by decide +kernel
theorem dX7_safe_22 : decode cX7_safe 22 = .ok (.ireturn, 1) := by decide +kernel
theorem dX7_safe_23 : decode cX7_safe 23 = .ok (.ldc2_w 255, 3) := by decide +kernel
theorem dX7_safe_26 : decode cX7_safe 26 = .ok (.lstore_n 3, 1) := by decide +kernel
theorem dX7_safe_27 : decode cX7_safe 27 = .ok (.iconst 0, 1) := by decide +kernel
theorem dX7_safe_28 : decode cX7_safe 28 = .ok (.istore 5, 2) := by decide +kernel
theorem dX7_safe_30 : decode cX7_safe 30 = .ok (.iload 5, 2) := by decide +kernel
theorem dX7_safe_32 : decode cX7_safe 32 = .ok (.iload_n 1, 1) := by decide +kernel
theorem dX7_safe_33 : decode cX7_safe 33 = .ok (.if_icmp .ge 48, 3) := by decide +kernel
theorem dX7_safe_36 : decode cX7_safe 36 = .ok (.bipush 100, 2) := by decide +kernel
theorem dX7_safe_38 : decode cX7_safe 38 = .ok (.iload_n 2, 1) := by decide +kernel
theorem dX7_safe_39 : decode cX7_safe 39 = .ok (.aload_n 0, 1) := by decide +kernel
theorem dX7_safe_40 : decode cX7_safe 40 = .ok (.getfield 61, 3) := by decide +kernel
theorem dX7_safe_43 : decode cX7_safe 43 = .ok (.aload_n 0, 1) := by decide +kernel
theorem dX7_safe_44 : decode cX7_safe 44 = .ok (.getfield 19, 3) := by decide +kernel
theorem dX7_safe_47 : decode cX7_safe 47 = .ok (.getfield 117, 3) := by decide +kernel
theorem dX7_safe_50 : decode cX7_safe 50 = .ok (.iload 5, 2) := by decide +kernel
theorem dX7_safe_52 : decode cX7_safe 52 = .ok (.iadd, 1) := by decide +kernel
theorem dX7_safe_53 : decode cX7_safe 53 = .ok (.invokevirtual 175, 3) := by decide +kernel
theorem dX7_safe_56 : decode cX7_safe 56 = .ok (.iadd, 1) := by decide +kernel
theorem dX7_safe_57 : decode cX7_safe 57 = .ok (.invokestatic 257, 3) := by decide +kernel
theorem dX7_safe_60 : decode cX7_safe 60 = .ok (.istore 6, 2) := by decide +kernel
theorem dX7_safe_62 : decode cX7_safe 62 = .ok (.lload_n 3, 1) := by decide +kernel
theorem dX7_safe_63 : decode cX7_safe 63 = .ok (.bipush 100, 2) := by decide +kernel
theorem dX7_safe_65 : decode cX7_safe 65 = .ok (.iload 6, 2) := by decide +kernel
theorem dX7_safe_67 : decode cX7_safe 67 = .ok (.isub, 1) := by decide +kernel
theorem dX7_safe_68 : decode cX7_safe 68 = .ok (.i2l, 1) := by decide +kernel
theorem dX7_safe_69 : decode cX7_safe 69 = .ok (.lmul, 1) := by decide +kernel
theorem dX7_safe_70 : decode cX7_safe 70 = .ok (.ldc2_w 260, 3) := by decide +kernel
theorem dX7_safe_73 : decode cX7_safe 73 = .ok (.ldiv, 1) := by decide +kernel
theorem dX7_safe_74 : decode cX7_safe 74 = .ok (.lstore_n 3, 1) := by decide +kernel
theorem dX7_safe_75 : decode cX7_safe 75 = .ok (.iinc 5 1, 3) := by decide +kernel
theorem dX7_safe_78 : decode cX7_safe 78 = .ok (.goto (-48), 3) := by decide +kernel
theorem dX7_safe_81 : decode cX7_safe 81 = .ok (.lload_n 3, 1) := by decide +kernel
theorem dX7_safe_82 : decode cX7_safe 82 = .ok (.l2i, 1) := by decide +kernel
theorem dX7_safe_83 : decode cX7_safe 83 = .ok (.ireturn, 1) := by decide +kernel
set_option maxRecDepth 20000 in
theorem ggX7_watch_X2_hasDay : GoodIn wsX7_watch wsX2_hasDay := goodIn_r _ [10, 11, 37, 38, 39, 40, 41, 42, 43, 44, 45, 46] (by decide +kernel) (by decide +kernel)
set_option maxRecDepth 20000 in
theorem gX7_watch_X2_hasDay : GoodIn wsX7_watch (wsV RX7 166 RX2 yX2_hasDay wsX2_hasDay) := goodIn_app (goodIn_of _ (by decide +kernel)) ggX7_watch_X2_hasDay
set_option maxRecDepth 20000 in
theorem ggX7_watch_X6_add : GoodIn wsX7_watch wsX6_add := goodIn_r _ [16, 17, 18, 19, 20, 21, 22, 34, 35, 36] (by decide +kernel) (by decide +kernel)
set_option maxRecDepth 20000 in
theorem gX7_watch_X6_add : GoodIn wsX7_watch (wsV RX7 262 RX6 yX6_add wsX6_add) := goodIn_app (goodIn_of _ (by decide +kernel)) ggX7_watch_X6_add
theorem dX7_watch_0 : decode cX7_watch 0 = .ok (.aload_n 0, 1) := by decide +kernel
theorem dX7_watch_1 : decode cX7_watch 1 = .ok (.getfield 61, 3) := by decide +kernel
theorem dX7_watch_4 : decode cX7_watch 4 = .ok (.iload_n 1, 1) := by decide +kernel
theorem dX7_watch_5 : decode cX7_watch 5 = .ok (.invokevirtual 166, 3) := by decide +kernel
theorem dX7_watch_8 : decode cX7_watch 8 = .ok (.ifCond .ne 6, 3) := by decide +kernel
theorem dX7_watch_11 : decode cX7_watch 11 = .ok (.ldc 135, 2) := by decide +kernel
theorem dX7_watch_13 : decode cX7_watch 13 = .ok (.ireturn, 1) := by decide +kernel
theorem dX7_watch_14 : decode cX7_watch 14 = .ok (.aload_n 0, 1) := by decide +kernel
theorem dX7_watch_15 : decode cX7_watch 15 = .ok (.getfield 43, 3) := by decide +kernel
theorem dX7_watch_18 : decode cX7_watch 18 = .ok (.iload_n 1, 1) := by decide +kernel
theorem dX7_watch_19 : decode cX7_watch 19 = .ok (.iload_n 2, 1) := by decide +kernel
theorem dX7_watch_20 : decode cX7_watch 20 = .ok (.invokevirtual 262, 3) := by decide +kernel
theorem dX7_watch_23 : decode cX7_watch 23 = .ok (.ifCond .eq 13, 3) := by decide +kernel
theorem dX7_watch_26 : decode cX7_watch 26 = .ok (.aload_n 0, 1) := by decide +kernel
theorem dX7_watch_27 : decode cX7_watch 27 = .ok (.getfield 43, 3) := by decide +kernel
theorem dX7_watch_30 : decode cX7_watch 30 = .ok (.getfield 100, 3) := by decide +kernel
theorem dX7_watch_33 : decode cX7_watch 33 = .ok (.goto 5, 3) := by decide +kernel
theorem dX7_watch_36 : decode cX7_watch 36 = .ok (.ldc 84, 2) := by decide +kernel
theorem dX7_watch_38 : decode cX7_watch 38 = .ok (.ireturn, 1) := by decide +kernel
set_option maxRecDepth 20000 in
theorem ggX7_fits_X6_isFitting : GoodIn wsX7_fits wsX6_isFitting := goodIn_r _ [9, 10, 11, 12, 13, 14, 15, 16, 17, 18, 19, 20, 21, 22, 23, 24, 25, 26, 27, 28, 29, 30, 31, 32, 33, 34, 35, 36, 37, 38, 39, 40, 41, 42, 43, 44, 45, 46, 47, 48, 49, 67, 68, 69, 70, 71, 72, 73, 74, 75, 76, 77, 78, 79] (by decide +kernel) (by decide +kernel)
set_option maxRecDepth 20000 in
theorem gX7_fits_X6_isFitting : GoodIn wsX7_fits (wsV RX7 265 RX6 yX6_isFitting wsX6_isFitting) := goodIn_app (goodIn_of _ (by decide +kernel)) ggX7_fits_X6_isFitting
theorem dX7_fits_0 : decode cX7_fits 0 = .ok (.iconst 0, 1) := by decide +kernel
theorem dX7_fits_1 : decode cX7_fits 1 = .ok (.istore_n 1, 1) := by decide +kernel
theorem dX7_fits_2 : decode cX7_fits 2 = .ok (.iconst 0, 1) := by decide +kernel
theorem dX7_fits_3 : decode cX7_fits 3 = .ok (.istore_n 2, 1) := by decide +kernel
theorem dX7_fits_4 : decode cX7_fits 4 = .ok (.iload_n 2, 1) := by decide +kernel
theorem dX7_fits_5 : decode cX7_fits 5 = .ok (.aload_n 0, 1) := by decide +kernel
theorem dX7_fits_6 : decode cX7_fits 6 = .ok (.getfield 19, 3) := by decide +kernel
theorem dX7_fits_9 : decode cX7_fits 9 = .ok (.getfield 113, 3) := by decide +kernel
theorem dX7_fits_12 : decode cX7_fits 12 = .ok (.if_icmp .ge 30, 3) := by decide +kernel
theorem dX7_fits_15 : decode cX7_fits 15 = .ok (.aload_n 0, 1) := by decide +kernel
theorem dX7_fits_16 : decode cX7_fits 16 = .ok (.getfield 43, 3) := by decide +kernel
theorem dX7_fits_19 : decode cX7_fits 19 = .ok (.aload_n 0, 1) := by decide +kernel
theorem dX7_fits_20 : decode cX7_fits 20 = .ok (.getfield 61, 3) := by decide +kernel
theorem dX7_fits_23 : decode cX7_fits 23 = .ok (.iload_n 2, 1) := by decide +kernel
theorem dX7_fits_24 : decode cX7_fits 24 = .ok (.invokevirtual 265, 3) := by decide +kernel
theorem dX7_fits_27 : decode cX7_fits 27 = .ok (.ifCond .eq 9, 3) := by decide +kernel
theorem dX7_fits_30 : decode cX7_fits 30 = .ok (.iload_n 1, 1) := by decide +kernel
theorem dX7_fits_31 : decode cX7_fits 31 = .ok (.iconst 1, 1) := by decide +kernel
theorem dX7_fits_32 : decode cX7_fits 32 = .ok (.iload_n 2, 1) := by decide +kernel
theorem dX7_fits_33 : decode cX7_fits 33 = .ok (.ishl, 1) := by decide +kernel
theorem dX7_fits_34 : decode cX7_fits 34 = .ok (.ior, 1) := by decide +kernel
theorem dX7_fits_35 : decode cX7_fits 35 = .ok (.istore_n 1, 1) := by decide +kernel
theorem dX7_fits_36 : decode cX7_fits 36 = .ok (.iinc 2 1, 3) := by decide +kernel
theorem dX7_fits_39 : decode cX7_fits 39 = .ok (.goto (-35), 3) := by decide +kernel
theorem dX7_fits_42 : decode cX7_fits 42 = .ok (.iload_n 1, 1) := by decide +kernel
theorem dX7_fits_43 : decode cX7_fits 43 = .ok (.ireturn, 1) := by decide +kernel
set_option maxRecDepth 20000 in
theorem ggX7_lookOn_X7_fits : GoodIn wsX7_lookOn wsX7_fits := goodIn_r _ [11, 12, 13, 14, 1, 15, 16, 17, 18, 19, 20, 21, 22, 23, 10, 24, 25, 26, 27, 28, 29, 30, 31, 32, 33, 34, 35, 36, 37, 38, 39, 40, 41, 42, 43, 44, 45, 46, 47, 48, 49, 50, 51, 52, 53, 54, 55, 56, 57, 58, 71, 72, 73, 74, 75, 76, 77, 78, 79, 80, 81, 92, 93, 94, 95, 96, 97, 98, 99, 100, 82, 83, 84, 85, 86, 87, 88, 89, 90, 91] (by decide +kernel) (by decide +kernel)
set_option maxRecDepth 20000 in
theorem gX7_lookOn_X7_fits : GoodIn wsX7_lookOn (wsV RX7 269 RX7 yX7_fits wsX7_fits) := goodIn_app (goodIn_of _ (by decide +kernel)) ggX7_lookOn_X7_fits
set_option maxRecDepth 20000 in
theorem ggX7_lookOn_J6_bitCount_0f7a4 : GoodIn wsX7_lookOn wsJ6_bitCount_0f7a4 := goodIn_r _ [62, 63, 64, 65] (by decide +kernel) (by decide +kernel)
set_option maxRecDepth 20000 in
theorem gX7_lookOn_J6_bitCount_0f7a4 : GoodIn wsX7_lookOn (va_wsS RX7 203 yJ6_bitCount_0f7a4 wsJ6_bitCount_0f7a4) := goodIn_app (goodIn_of _ (by decide +kernel)) ggX7_lookOn_J6_bitCount_0f7a4
set_option maxRecDepth 20000 in
theorem ggX7_lookOn_X2_goersOn : GoodIn wsX7_lookOn wsX2_goersOn := goodIn_r _ [69, 70, 26, 27, 28, 29, 30, 31, 32, 33, 34, 35, 36, 37, 38, 39, 23, 10, 24, 40, 41, 42, 43, 44, 45, 46, 47, 48, 49, 50, 51, 52, 53, 54, 55, 56, 57, 58, 82, 83, 84, 85, 86, 87, 88, 89, 90, 91] (by decide +kernel) (by decide +kernel)
set_option maxRecDepth 20000 in
theorem gX7_lookOn_X2_goersOn : GoodIn wsX7_lookOn (wsV RX7 272 RX2 yX2_goersOn wsX2_goersOn) := goodIn_app (goodIn_of _ (by decide +kernel)) ggX7_lookOn_X2_goersOn
theorem dX7_lookOn_0 : decode cX7_lookOn 0 = .ok (.aload_n 0, 1) := by decide +kernel
theorem dX7_lookOn_1 : decode cX7_lookOn 1 = .ok (.invokevirtual 269, 3) := by decide +kernel
theorem dX7_lookOn_4 : decode cX7_lookOn 4 = .ok (.istore_n 1, 1) := by decide +kernel
theorem dX7_lookOn_5 : decode cX7_lookOn 5 = .ok (.iconst (-1), 1) := by decide +kernel
theorem dX7_lookOn_6 : decode cX7_lookOn 6 = .ok (.istore_n 2, 1) := by decide +kernel
theorem dX7_lookOn_7 : decode cX7_lookOn 7 = .ok (.iload_n 1, 1) := by decide +kernel
theorem dX7_lookOn_8 : decode cX7_lookOn 8 = .ok (.invokestatic 203, 3) := by decide +kernel
theorem dX7_lookOn_11 : decode cX7_lookOn 11 = .ok (.istore_n 3, 1) := by decide +kernel
theorem dX7_lookOn_12 : decode cX7_lookOn 12 = .ok (.iconst 0, 1) := by decide +kernel
theorem dX7_lookOn_13 : decode cX7_lookOn 13 = .ok (.istore 4, 2) := by decide +kernel
theorem dX7_lookOn_15 : decode cX7_lookOn 15 = .ok (.iload 4, 2) := by decide +kernel
theorem dX7_lookOn_17 : decode cX7_lookOn 17 = .ok (.aload_n 0, 1) := by decide +kernel
theorem dX7_lookOn_18 : decode cX7_lookOn 18 = .ok (.getfield 61, 3) := by decide +kernel
theorem dX7_lookOn_21 : decode cX7_lookOn 21 = .ok (.getfield 114, 3) := by decide +kernel
theorem dX7_lookOn_24 : decode cX7_lookOn 24 = .ok (.if_icmp .ge 51, 3) := by decide +kernel
theorem dX7_lookOn_27 : decode cX7_lookOn 27 = .ok (.iload_n 1, 1) := by decide +kernel
theorem dX7_lookOn_28 : decode cX7_lookOn 28 = .ok (.aload_n 0, 1) := by decide +kernel
theorem dX7_lookOn_29 : decode cX7_lookOn 29 = .ok (.getfield 61, 3) := by decide +kernel
theorem dX7_lookOn_32 : decode cX7_lookOn 32 = .ok (.iload 4, 2) := by decide +kernel
theorem dX7_lookOn_34 : decode cX7_lookOn 34 = .ok (.invokevirtual 272, 3) := by decide +kernel
theorem dX7_lookOn_37 : decode cX7_lookOn 37 = .ok (.iand, 1) := by decide +kernel
theorem dX7_lookOn_38 : decode cX7_lookOn 38 = .ok (.invokestatic 203, 3) := by decide +kernel
theorem dX7_lookOn_41 : decode cX7_lookOn 41 = .ok (.istore 5, 2) := by decide +kernel
theorem dX7_lookOn_43 : decode cX7_lookOn 43 = .ok (.iload 5, 2) := by decide +kernel
theorem dX7_lookOn_45 : decode cX7_lookOn 45 = .ok (.iload_n 1, 1) := by decide +kernel
theorem dX7_lookOn_46 : decode cX7_lookOn 46 = .ok (.invokestatic 203, 3) := by decide +kernel
theorem dX7_lookOn_49 : decode cX7_lookOn 49 = .ok (.iload 5, 2) := by decide +kernel
theorem dX7_lookOn_51 : decode cX7_lookOn 51 = .ok (.isub, 1) := by decide +kernel
theorem dX7_lookOn_52 : decode cX7_lookOn 52 = .ok (.invokestatic 249, 3) := by decide +kernel
theorem dX7_lookOn_55 : decode cX7_lookOn 55 = .ok (.istore 6, 2) := by decide +kernel
theorem dX7_lookOn_57 : decode cX7_lookOn 57 = .ok (.iload 6, 2) := by decide +kernel
theorem dX7_lookOn_59 : decode cX7_lookOn 59 = .ok (.iload_n 3, 1) := by decide +kernel
theorem dX7_lookOn_60 : decode cX7_lookOn 60 = .ok (.if_icmp .ge 9, 3) := by decide +kernel
theorem dX7_lookOn_63 : decode cX7_lookOn 63 = .ok (.iload 4, 2) := by decide +kernel
theorem dX7_lookOn_65 : decode cX7_lookOn 65 = .ok (.istore_n 2, 1) := by decide +kernel
theorem dX7_lookOn_66 : decode cX7_lookOn 66 = .ok (.iload 6, 2) := by decide +kernel
theorem dX7_lookOn_68 : decode cX7_lookOn 68 = .ok (.istore_n 3, 1) := by decide +kernel
theorem dX7_lookOn_69 : decode cX7_lookOn 69 = .ok (.iinc 4 1, 3) := by decide +kernel
theorem dX7_lookOn_72 : decode cX7_lookOn 72 = .ok (.goto (-57), 3) := by decide +kernel
theorem dX7_lookOn_75 : decode cX7_lookOn 75 = .ok (.iload_n 2, 1) := by decide +kernel
theorem dX7_lookOn_76 : decode cX7_lookOn 76 = .ok (.ireturn, 1) := by decide +kernel
set_option maxRecDepth 20000 in
theorem ggX7_write_X1_has : GoodIn wsX7_write wsX1_has := goodIn_r _ [11, 12, 41, 42, 43, 44, 45, 46] (by decide +kernel) (by decide +kernel)
set_option maxRecDepth 20000 in
theorem gX7_write_X1_has : GoodIn wsX7_write (wsV RX7 132 RX1 yX1_has wsX1_has) := goodIn_app (goodIn_of _ (by decide +kernel)) ggX7_write_X1_has
set_option maxRecDepth 20000 in
theorem ggX7_write_X7_within : GoodIn wsX7_write wsX7_within := goodIn_r _ [16] (by decide +kernel) (by decide +kernel)
set_option maxRecDepth 20000 in
theorem gX7_write_X7_within : GoodIn wsX7_write (va_wsS RX7 72 yX7_within wsX7_within) := goodIn_app (goodIn_of _ (by decide +kernel)) ggX7_write_X7_within
set_option maxRecDepth 20000 in
theorem ggX7_write_X0_add : GoodIn wsX7_write wsX0_add := goodIn_r _ [21, 22, 23, 24, 25, 15, 26, 38, 39, 40] (by decide +kernel) (by decide +kernel)
set_option maxRecDepth 20000 in
theorem gX7_write_X0_add : GoodIn wsX7_write (wsV RX7 274 RX0 yX0_add wsX0_add) := goodIn_app (goodIn_of _ (by decide +kernel)) ggX7_write_X0_add
theorem dX7_write_0 : decode cX7_write 0 = .ok (.aload_n 0, 1) := by decide +kernel
theorem dX7_write_1 : decode cX7_write 1 = .ok (.getfield 19, 3) := by decide +kernel
theorem dX7_write_4 : decode cX7_write 4 = .ok (.iload_n 1, 1) := by decide +kernel
theorem dX7_write_5 : decode cX7_write 5 = .ok (.invokevirtual 132, 3) := by decide +kernel
theorem dX7_write_8 : decode cX7_write 8 = .ok (.ifCond .ne 6, 3) := by decide +kernel
theorem dX7_write_11 : decode cX7_write 11 = .ok (.ldc 135, 2) := by decide +kernel
theorem dX7_write_13 : decode cX7_write 13 = .ok (.ireturn, 1) := by decide +kernel
theorem dX7_write_14 : decode cX7_write 14 = .ok (.iload_n 2, 1) := by decide +kernel
theorem dX7_write_15 : decode cX7_write 15 = .ok (.iconst 0, 1) := by decide +kernel
theorem dX7_write_16 : decode cX7_write 16 = .ok (.sipush 255, 3) := by decide +kernel
theorem dX7_write_19 : decode cX7_write 19 = .ok (.invokestatic 72, 3) := by decide +kernel
theorem dX7_write_22 : decode cX7_write 22 = .ok (.ifCond .ne 6, 3) := by decide +kernel
theorem dX7_write_25 : decode cX7_write 25 = .ok (.ldc 76, 2) := by decide +kernel
theorem dX7_write_27 : decode cX7_write 27 = .ok (.ireturn, 1) := by decide +kernel
theorem dX7_write_28 : decode cX7_write 28 = .ok (.aload_n 0, 1) := by decide +kernel
theorem dX7_write_29 : decode cX7_write 29 = .ok (.getfield 50, 3) := by decide +kernel
theorem dX7_write_32 : decode cX7_write 32 = .ok (.iload_n 1, 1) := by decide +kernel
theorem dX7_write_33 : decode cX7_write 33 = .ok (.iload_n 2, 1) := by decide +kernel
theorem dX7_write_34 : decode cX7_write 34 = .ok (.invokevirtual 274, 3) := by decide +kernel
theorem dX7_write_37 : decode cX7_write 37 = .ok (.ifCond .eq 13, 3) := by decide +kernel
theorem dX7_write_40 : decode cX7_write 40 = .ok (.aload_n 0, 1) := by decide +kernel
theorem dX7_write_41 : decode cX7_write 41 = .ok (.getfield 50, 3) := by decide +kernel
theorem dX7_write_44 : decode cX7_write 44 = .ok (.getfield 103, 3) := by decide +kernel
theorem dX7_write_47 : decode cX7_write 47 = .ok (.goto 5, 3) := by decide +kernel
theorem dX7_write_50 : decode cX7_write 50 = .ok (.ldc 84, 2) := by decide +kernel
theorem dX7_write_52 : decode cX7_write 52 = .ok (.ireturn, 1) := by decide +kernel
theorem dX7_tear_0 : decode cX7_tear 0 = .ok (.aload_n 0, 1) := by decide +kernel
theorem dX7_tear_1 : decode cX7_tear 1 = .ok (.getfield 43, 3) := by decide +kernel
theorem dX7_tear_4 : decode cX7_tear 4 = .ok (.getfield 100, 3) := by decide +kernel
theorem dX7_tear_7 : decode cX7_tear 7 = .ok (.aload_n 0, 1) := by decide +kernel
theorem dX7_tear_8 : decode cX7_tear 8 = .ok (.getfield 50, 3) := by decide +kernel
theorem dX7_tear_11 : decode cX7_tear 11 = .ok (.getfield 103, 3) := by decide +kernel
theorem dX7_tear_14 : decode cX7_tear 14 = .ok (.iadd, 1) := by decide +kernel
theorem dX7_tear_15 : decode cX7_tear 15 = .ok (.istore_n 1, 1) := by decide +kernel
theorem dX7_tear_16 : decode cX7_tear 16 = .ok (.aload_n 0, 1) := by decide +kernel
theorem dX7_tear_17 : decode cX7_tear 17 = .ok (.getfield 43, 3) := by decide +kernel
theorem dX7_tear_20 : decode cX7_tear 20 = .ok (.iconst 0, 1) := by decide +kernel
theorem dX7_tear_21 : decode cX7_tear 21 = .ok (.putfield 100, 3) := by decide +kernel
theorem dX7_tear_24 : decode cX7_tear 24 = .ok (.aload_n 0, 1) := by decide +kernel
theorem dX7_tear_25 : decode cX7_tear 25 = .ok (.getfield 50, 3) := by decide +kernel
theorem dX7_tear_28 : decode cX7_tear 28 = .ok (.iconst 0, 1) := by decide +kernel
theorem dX7_tear_29 : decode cX7_tear 29 = .ok (.putfield 103, 3) := by decide +kernel
theorem dX7_tear_32 : decode cX7_tear 32 = .ok (.iload_n 1, 1) := by decide +kernel
theorem dX7_tear_33 : decode cX7_tear 33 = .ok (.ireturn, 1) := by decide +kernel
set_option maxRecDepth 20000 in
theorem ggX7_judge_X0_firstWrong : GoodIn wsX7_judge wsX0_firstWrong := goodIn_r _ [7, 8, 9, 10, 11, 12, 13, 14, 15, 16, 17, 18, 19, 20, 32, 33, 34, 35, 36, 37, 38, 39, 40] (by decide +kernel) (by decide +kernel)
set_option maxRecDepth 20000 in
theorem gX7_judge_X0_firstWrong : GoodIn wsX7_judge (wsV RX7 276 RX0 yX0_firstWrong wsX0_firstWrong) := goodIn_app (goodIn_of _ (by decide +kernel)) ggX7_judge_X0_firstWrong
theorem dX7_judge_0 : decode cX7_judge 0 = .ok (.aload_n 0, 1) := by decide +kernel
theorem dX7_judge_1 : decode cX7_judge 1 = .ok (.getfield 50, 3) := by decide +kernel
theorem dX7_judge_4 : decode cX7_judge 4 = .ok (.aload_n 0, 1) := by decide +kernel
theorem dX7_judge_5 : decode cX7_judge 5 = .ok (.getfield 19, 3) := by decide +kernel
theorem dX7_judge_8 : decode cX7_judge 8 = .ok (.invokevirtual 276, 3) := by decide +kernel
theorem dX7_judge_11 : decode cX7_judge 11 = .ok (.ireturn, 1) := by decide +kernel
theorem dX7_seed_0 : decode cX7_seed 0 = .ok (.iload_n 1, 1) := by decide +kernel
theorem dX7_seed_1 : decode cX7_seed 1 = .ok (.ifCond .ge 6, 3) := by decide +kernel
theorem dX7_seed_4 : decode cX7_seed 4 = .ok (.ldc 76, 2) := by decide +kernel
theorem dX7_seed_6 : decode cX7_seed 6 = .ok (.ireturn, 1) := by decide +kernel
theorem dX7_seed_7 : decode cX7_seed 7 = .ok (.aload_n 0, 1) := by decide +kernel
theorem dX7_seed_8 : decode cX7_seed 8 = .ok (.getfield 68, 3) := by decide +kernel
theorem dX7_seed_11 : decode cX7_seed 11 = .ok (.istore_n 2, 1) := by decide +kernel
theorem dX7_seed_12 : decode cX7_seed 12 = .ok (.aload_n 0, 1) := by decide +kernel
theorem dX7_seed_13 : decode cX7_seed 13 = .ok (.iload_n 1, 1) := by decide +kernel
theorem dX7_seed_14 : decode cX7_seed 14 = .ok (.putfield 68, 3) := by decide +kernel
theorem dX7_seed_17 : decode cX7_seed 17 = .ok (.iload_n 2, 1) := by decide +kernel
theorem dX7_seed_18 : decode cX7_seed 18 = .ok (.ireturn, 1) := by decide +kernel
set_option maxRecDepth 20000 in
theorem ggX7_keep_X7_imageAt : GoodIn wsX7_keep wsX7_imageAt := goodIn_r _ [12, 13, 14, 43, 44, 45, 46, 47, 48, 49, 50, 51, 52, 53] (by decide +kernel) (by decide +kernel)
set_option maxRecDepth 20000 in
theorem gX7_keep_X7_imageAt : GoodIn wsX7_keep (wsV RX7 280 RX7 yX7_imageAt wsX7_imageAt) := goodIn_app (goodIn_of _ (by decide +kernel)) ggX7_keep_X7_imageAt
set_option maxRecDepth 20000 in
theorem ggX7_keep_X1_become : GoodIn wsX7_keep wsX1_become := goodIn_r _ [19, 20, 21, 22, 23, 24, 25, 26, 27, 28, 18, 29, 30, 11, 31, 32, 33, 54, 55, 56, 57, 58, 59] (by decide +kernel) (by decide +kernel)
set_option maxRecDepth 20000 in
theorem gX7_keep_X1_become : GoodIn wsX7_keep (wsV RX7 290 RX1 yX1_become wsX1_become) := goodIn_app (goodIn_of _ (by decide +kernel)) ggX7_keep_X1_become
set_option maxRecDepth 20000 in
theorem ggX7_keep_X4_forget : GoodIn wsX7_keep wsX4_forget := goodIn_r _ [38, 39, 60, 61, 62] (by decide +kernel) (by decide +kernel)
set_option maxRecDepth 20000 in
theorem gX7_keep_X4_forget : GoodIn wsX7_keep (wsV RX7 93 RX4 yX4_forget wsX4_forget) := goodIn_app (goodIn_of _ (by decide +kernel)) ggX7_keep_X4_forget
theorem dX7_keep_0 : decode cX7_keep 0 = .ok (.aload_n 0, 1) := by decide +kernel
theorem dX7_keep_1 : decode cX7_keep 1 = .ok (.iload_n 1, 1) := by decide +kernel
theorem dX7_keep_2 : decode cX7_keep 2 = .ok (.invokevirtual 280, 3) := by decide +kernel
theorem dX7_keep_5 : decode cX7_keep 5 = .ok (.astore_n 2, 1) := by decide +kernel
theorem dX7_keep_6 : decode cX7_keep 6 = .ok (.aload_n 2, 1) := by decide +kernel
theorem dX7_keep_7 : decode cX7_keep 7 = .ok (.ifnonnull 6, 3) := by decide +kernel
theorem dX7_keep_10 : decode cX7_keep 10 = .ok (.ldc 135, 2) := by decide +kernel
theorem dX7_keep_12 : decode cX7_keep 12 = .ok (.ireturn, 1) := by decide +kernel
theorem dX7_keep_13 : decode cX7_keep 13 = .ok (.aload_n 2, 1) := by decide +kernel
theorem dX7_keep_14 : decode cX7_keep 14 = .ok (.iconst 1, 1) := by decide +kernel
theorem dX7_keep_15 : decode cX7_keep 15 = .ok (.putfield 96, 3) := by decide +kernel
theorem dX7_keep_18 : decode cX7_keep 18 = .ok (.aload_n 2, 1) := by decide +kernel
theorem dX7_keep_19 : decode cX7_keep 19 = .ok (.aload_n 0, 1) := by decide +kernel
theorem dX7_keep_20 : decode cX7_keep 20 = .ok (.getfield 68, 3) := by decide +kernel
theorem dX7_keep_23 : decode cX7_keep 23 = .ok (.putfield 284, 3) := by decide +kernel
theorem dX7_keep_26 : decode cX7_keep 26 = .ok (.aload_n 2, 1) := by decide +kernel
theorem dX7_keep_27 : decode cX7_keep 27 = .ok (.getfield 287, 3) := by decide +kernel
theorem dX7_keep_30 : decode cX7_keep 30 = .ok (.aload_n 0, 1) := by decide +kernel
theorem dX7_keep_31 : decode cX7_keep 31 = .ok (.getfield 19, 3) := by decide +kernel
theorem dX7_keep_34 : decode cX7_keep 34 = .ok (.invokevirtual 290, 3) := by decide +kernel
theorem dX7_keep_37 : decode cX7_keep 37 = .ok (.aload_n 0, 1) := by decide +kernel
theorem dX7_keep_38 : decode cX7_keep 38 = .ok (.getfield 26, 3) := by decide +kernel
theorem dX7_keep_41 : decode cX7_keep 41 = .ok (.invokevirtual 93, 3) := by decide +kernel
theorem dX7_keep_44 : decode cX7_keep 44 = .ok (.iconst 1, 1) := by decide +kernel
theorem dX7_keep_45 : decode cX7_keep 45 = .ok (.ireturn, 1) := by decide +kernel
set_option maxRecDepth 20000 in
theorem ggX7_goBack_X7_imageAt : GoodIn wsX7_goBack wsX7_imageAt := goodIn_r _ [13, 14, 15, 44, 45, 46, 47, 48, 49, 50, 51, 52, 53, 54] (by decide +kernel) (by decide +kernel)
set_option maxRecDepth 20000 in
theorem gX7_goBack_X7_imageAt : GoodIn wsX7_goBack (wsV RX7 280 RX7 yX7_imageAt wsX7_imageAt) := goodIn_app (goodIn_of _ (by decide +kernel)) ggX7_goBack_X7_imageAt
set_option maxRecDepth 20000 in
theorem ggX7_goBack_X1_become : GoodIn wsX7_goBack wsX1_become := goodIn_r _ [20, 21, 22, 23, 24, 25, 26, 27, 28, 29, 19, 30, 31, 12, 32, 33, 34, 55, 56, 57, 58, 59, 60] (by decide +kernel) (by decide +kernel)
set_option maxRecDepth 20000 in
theorem gX7_goBack_X1_become : GoodIn wsX7_goBack (wsV RX7 290 RX1 yX1_become wsX1_become) := goodIn_app (goodIn_of _ (by decide +kernel)) ggX7_goBack_X1_become
set_option maxRecDepth 20000 in
theorem ggX7_goBack_X4_forget : GoodIn wsX7_goBack wsX4_forget := goodIn_r _ [39, 40, 61, 62, 63] (by decide +kernel) (by decide +kernel)
set_option maxRecDepth 20000 in
theorem gX7_goBack_X4_forget : GoodIn wsX7_goBack (wsV RX7 93 RX4 yX4_forget wsX4_forget) := goodIn_app (goodIn_of _ (by decide +kernel)) ggX7_goBack_X4_forget
theorem dX7_goBack_0 : decode cX7_goBack 0 = .ok (.aload_n 0, 1) := by decide +kernel
theorem dX7_goBack_1 : decode cX7_goBack 1 = .ok (.iload_n 1, 1) := by decide +kernel
theorem dX7_goBack_2 : decode cX7_goBack 2 = .ok (.invokevirtual 280, 3) := by decide +kernel
theorem dX7_goBack_5 : decode cX7_goBack 5 = .ok (.astore_n 2, 1) := by decide +kernel
theorem dX7_goBack_6 : decode cX7_goBack 6 = .ok (.aload_n 2, 1) := by decide +kernel
theorem dX7_goBack_7 : decode cX7_goBack 7 = .ok (.ifnonnull 6, 3) := by decide +kernel
theorem dX7_goBack_10 : decode cX7_goBack 10 = .ok (.ldc 135, 2) := by decide +kernel
theorem dX7_goBack_12 : decode cX7_goBack 12 = .ok (.ireturn, 1) := by decide +kernel
theorem dX7_goBack_13 : decode cX7_goBack 13 = .ok (.aload_n 2, 1) := by decide +kernel
theorem dX7_goBack_14 : decode cX7_goBack 14 = .ok (.getfield 96, 3) := by decide +kernel
theorem dX7_goBack_17 : decode cX7_goBack 17 = .ok (.ifCond .ne 6, 3) := by decide +kernel
theorem dX7_goBack_20 : decode cX7_goBack 20 = .ok (.ldc 192, 2) := by decide +kernel
theorem dX7_goBack_22 : decode cX7_goBack 22 = .ok (.ireturn, 1) := by decide +kernel
theorem dX7_goBack_23 : decode cX7_goBack 23 = .ok (.aload_n 0, 1) := by decide +kernel
theorem dX7_goBack_24 : decode cX7_goBack 24 = .ok (.aload_n 2, 1) := by decide +kernel
theorem dX7_goBack_25 : decode cX7_goBack 25 = .ok (.getfield 284, 3) := by decide +kernel
theorem dX7_goBack_28 : decode cX7_goBack 28 = .ok (.putfield 68, 3) := by decide +kernel
theorem dX7_goBack_31 : decode cX7_goBack 31 = .ok (.aload_n 0, 1) := by decide +kernel
theorem dX7_goBack_32 : decode cX7_goBack 32 = .ok (.getfield 19, 3) := by decide +kernel
theorem dX7_goBack_35 : decode cX7_goBack 35 = .ok (.aload_n 2, 1) := by decide +kernel
theorem dX7_goBack_36 : decode cX7_goBack 36 = .ok (.getfield 287, 3) := by decide +kernel
theorem dX7_goBack_39 : decode cX7_goBack 39 = .ok (.invokevirtual 290, 3) := by decide +kernel
theorem dX7_goBack_42 : decode cX7_goBack 42 = .ok (.aload_n 0, 1) := by decide +kernel
theorem dX7_goBack_43 : decode cX7_goBack 43 = .ok (.getfield 26, 3) := by decide +kernel
theorem dX7_goBack_46 : decode cX7_goBack 46 = .ok (.invokevirtual 93, 3) := by decide +kernel
theorem dX7_goBack_49 : decode cX7_goBack 49 = .ok (.iconst 1, 1) := by decide +kernel
theorem dX7_goBack_50 : decode cX7_goBack 50 = .ok (.ireturn, 1) := by decide +kernel
theorem dX7_imageAt_0 : decode cX7_imageAt 0 = .ok (.iload_n 1, 1) := by decide +kernel
theorem dX7_imageAt_1 : decode cX7_imageAt 1 = .ok (.ifCond .ne 8, 3) := by decide +kernel
theorem dX7_imageAt_4 : decode cX7_imageAt 4 = .ok (.aload_n 0, 1) := by decide +kernel
theorem dX7_imageAt_5 : decode cX7_imageAt 5 = .ok (.getfield 33, 3) := by decide +kernel
theorem dX7_imageAt_8 : decode cX7_imageAt 8 = .ok (.areturn, 1) := by decide +kernel
theorem dX7_imageAt_9 : decode cX7_imageAt 9 = .ok (.iload_n 1, 1) := by decide +kernel
theorem dX7_imageAt_10 : decode cX7_imageAt 10 = .ok (.iconst 1, 1) := by decide +kernel
theorem dX7_imageAt_11 : decode cX7_imageAt 11 = .ok (.if_icmp .ne 10, 3) := by decide +kernel
theorem dX7_imageAt_14 : decode cX7_imageAt 14 = .ok (.aload_n 0, 1) := by decide +kernel
theorem dX7_imageAt_15 : decode cX7_imageAt 15 = .ok (.getfield 37, 3) := by decide +kernel
theorem dX7_imageAt_18 : decode cX7_imageAt 18 = .ok (.goto 4, 3) := by decide +kernel
theorem dX7_imageAt_21 : decode cX7_imageAt 21 = .ok (.aconst_null, 1) := by decide +kernel
theorem dX7_imageAt_22 : decode cX7_imageAt 22 = .ok (.areturn, 1) := by decide +kernel
theorem dX7_within_0 : decode cX7_within 0 = .ok (.iload_n 0, 1) := by decide +kernel
theorem dX7_within_1 : decode cX7_within 1 = .ok (.iload_n 1, 1) := by decide +kernel
theorem dX7_within_2 : decode cX7_within 2 = .ok (.if_icmp .lt 12, 3) := by decide +kernel
theorem dX7_within_5 : decode cX7_within 5 = .ok (.iload_n 0, 1) := by decide +kernel
theorem dX7_within_6 : decode cX7_within 6 = .ok (.iload_n 2, 1) := by decide +kernel
theorem dX7_within_7 : decode cX7_within 7 = .ok (.if_icmp .gt 7, 3) := by decide +kernel
theorem dX7_within_10 : decode cX7_within 10 = .ok (.iconst 1, 1) := by decide +kernel
theorem dX7_within_11 : decode cX7_within 11 = .ok (.goto 4, 3) := by decide +kernel
theorem dX7_within_14 : decode cX7_within 14 = .ok (.iconst 0, 1) := by decide +kernel
theorem dX7_within_15 : decode cX7_within 15 = .ok (.ireturn, 1) := by decide +kernel
theorem dX7_holds_0 : decode cX7_holds 0 = .ok (.iload_n 0, 1) := by decide +kernel
theorem dX7_holds_1 : decode cX7_holds 1 = .ok (.iload_n 1, 1) := by decide +kernel
theorem dX7_holds_2 : decode cX7_holds 2 = .ok (.ishr, 1) := by decide +kernel
theorem dX7_holds_3 : decode cX7_holds 3 = .ok (.iconst 1, 1) := by decide +kernel
theorem dX7_holds_4 : decode cX7_holds 4 = .ok (.iand, 1) := by decide +kernel
theorem dX7_holds_5 : decode cX7_holds 5 = .ok (.iconst 1, 1) := by decide +kernel
theorem dX7_holds_6 : decode cX7_holds 6 = .ok (.if_icmp .ne 7, 3) := by decide +kernel
theorem dX7_holds_9 : decode cX7_holds 9 = .ok (.iconst 1, 1) := by decide +kernel
theorem dX7_holds_10 : decode cX7_holds 10 = .ok (.goto 4, 3) := by decide +kernel
theorem dX7_holds_13 : decode cX7_holds 13 = .ok (.iconst 0, 1) := by decide +kernel
theorem dX7_holds_14 : decode cX7_holds 14 = .ok (.ireturn, 1) := by decide +kernel
theorem dX7_leastOf_0 : decode cX7_leastOf 0 = .ok (.iload_n 0, 1) := by decide +kernel
theorem dX7_leastOf_1 : decode cX7_leastOf 1 = .ok (.iload_n 0, 1) := by decide +kernel
theorem dX7_leastOf_2 : decode cX7_leastOf 2 = .ok (.ineg, 1) := by decide +kernel
theorem dX7_leastOf_3 : decode cX7_leastOf 3 = .ok (.iand, 1) := by decide +kernel
theorem dX7_leastOf_4 : decode cX7_leastOf 4 = .ok (.ireturn, 1) := by decide +kernel
theorem dX7_at_0 : decode cX7_at 0 = .ok (.iload_n 1, 1) := by decide +kernel
theorem dX7_at_1 : decode cX7_at 1 = .ok (.ifCond .lt 15, 3) := by decide +kernel
theorem dX7_at_4 : decode cX7_at 4 = .ok (.iload_n 1, 1) := by decide +kernel
theorem dX7_at_5 : decode cX7_at 5 = .ok (.aload_n 0, 1) := by decide +kernel
theorem dX7_at_6 : decode cX7_at 6 = .ok (.arraylength, 1) := by decide +kernel
theorem dX7_at_7 : decode cX7_at 7 = .ok (.if_icmp .ge 9, 3) := by decide +kernel
theorem dX7_at_10 : decode cX7_at 10 = .ok (.aload_n 0, 1) := by decide +kernel
theorem dX7_at_11 : decode cX7_at 11 = .ok (.iload_n 1, 1) := by decide +kernel
theorem dX7_at_12 : decode cX7_at 12 = .ok (.iaload, 1) := by decide +kernel
theorem dX7_at_13 : decode cX7_at 13 = .ok (.goto 4, 3) := by decide +kernel
theorem dX7_at_16 : decode cX7_at 16 = .ok (.iconst 0, 1) := by decide +kernel
theorem dX7_at_17 : decode cX7_at 17 = .ok (.ireturn, 1) := by decide +kernel
theorem dX7_put_0 : decode cX7_put 0 = .ok (.iload_n 1, 1) := by decide +kernel
theorem dX7_put_1 : decode cX7_put 1 = .ok (.ifCond .lt 13, 3) := by decide +kernel
theorem dX7_put_4 : decode cX7_put 4 = .ok (.iload_n 1, 1) := by decide +kernel
theorem dX7_put_5 : decode cX7_put 5 = .ok (.aload_n 0, 1) := by decide +kernel
theorem dX7_put_6 : decode cX7_put 6 = .ok (.arraylength, 1) := by decide +kernel
theorem dX7_put_7 : decode cX7_put 7 = .ok (.if_icmp .ge 7, 3) := by decide +kernel
theorem dX7_put_10 : decode cX7_put 10 = .ok (.aload_n 0, 1) := by decide +kernel
theorem dX7_put_11 : decode cX7_put 11 = .ok (.iload_n 1, 1) := by decide +kernel
theorem dX7_put_12 : decode cX7_put 12 = .ok (.iload_n 2, 1) := by decide +kernel
theorem dX7_put_13 : decode cX7_put 13 = .ok (.iastore, 1) := by decide +kernel
theorem dX7_put_14 : decode cX7_put 14 = .ok (.return_, 1) := by decide +kernel
