theorem dX8_day_12 : decode cX8_day 12 = .ok (.aload_n 0, 1) := by decide +kernel
theorem dX8_day_13 : decode cX8_day 13 = .ok (.invokevirtual 207, 3) := by decide +kernel
theorem dX8_day_16 : decode cX8_day 16 = .ok (.iconst 0, 1) := by decide +kernel
theorem dX8_day_17 : decode cX8_day 17 = .ok (.istore_n 3, 1) := by decide +kernel
theorem dX8_day_18 : decode cX8_day 18 = .ok (.iload_n 3, 1) := by decide +kernel
theorem dX8_day_19 : decode cX8_day 19 = .ok (.iload_n 1, 1) := by decide +kernel
theorem dX8_day_20 : decode cX8_day 20 = .ok (.if_icmp .ge 13, 3) := by decide +kernel
theorem dX8_day_23 : decode cX8_day 23 = .ok (.aload_n 0, 1) := by decide +kernel
theorem dX8_day_24 : decode cX8_day 24 = .ok (.invokevirtual 210, 3) := by decide +kernel
theorem dX8_day_27 : decode cX8_day 27 = .ok (.iinc 3 1, 3) := by decide +kernel
theorem dX8_day_30 : decode cX8_day 30 = .ok (.goto (-12), 3) := by decide +kernel
theorem dX8_day_33 : decode cX8_day 33 = .ok (.aload_n 0, 1) := by decide +kernel
theorem dX8_day_34 : decode cX8_day 34 = .ok (.getfield 28, 3) := by decide +kernel
theorem dX8_day_37 : decode cX8_day 37 = .ok (.bipush 12, 2) := by decide +kernel
theorem dX8_day_39 : decode cX8_day 39 = .ok (.iaload, 1) := by decide +kernel
theorem dX8_day_40 : decode cX8_day 40 = .ok (.ireturn, 1) := by decide +kernel
set_option maxRecDepth 20000 in
theorem ggX8_shoot_X8_seenOn : GoodIn wsX8_shoot wsX8_seenOn := goodIn_r _ [6, 1, 7, 8, 9, 5, 10, 11, 12, 13, 14, 15, 16, 17, 18, 19, 20, 21, 22, 23, 24, 25, 26, 27, 28, 29, 30, 31, 32, 33, 34, 35, 36, 37, 38, 39, 40, 41, 42, 43, 44, 45, 46, 47, 48, 49, 50, 51, 52, 53, 54, 55, 56, 57, 58, 59, 60, 61, 62, 63, 64, 65, 66, 67, 68, 69, 70] (by decide +kernel) (by decide +kernel)
set_option maxRecDepth 20000 in
theorem gX8_shoot_X8_seenOn : GoodIn wsX8_shoot (wsV RX8 184 RX8 yX8_seenOn wsX8_seenOn) := goodIn_app (goodIn_of _ (by decide +kernel)) ggX8_shoot_X8_seenOn
theorem dX8_shoot_0 : decode cX8_shoot 0 = .ok (.aload_n 0, 1) := by decide +kernel
theorem dX8_shoot_1 : decode cX8_shoot 1 = .ok (.aload_n 0, 1) := by decide +kernel
theorem dX8_shoot_2 : decode cX8_shoot 2 = .ok (.getfield 28, 3) := by decide +kernel
theorem dX8_shoot_5 : decode cX8_shoot 5 = .ok (.bipush 11, 2) := by decide +kernel
theorem dX8_shoot_7 : decode cX8_shoot 7 = .ok (.iaload, 1) := by decide +kernel
theorem dX8_shoot_8 : decode cX8_shoot 8 = .ok (.invokevirtual 184, 3) := by decide +kernel
theorem dX8_shoot_11 : decode cX8_shoot 11 = .ok (.istore_n 1, 1) := by decide +kernel
theorem dX8_shoot_12 : decode cX8_shoot 12 = .ok (.aload_n 0, 1) := by decide +kernel
theorem dX8_shoot_13 : decode cX8_shoot 13 = .ok (.getfield 28, 3) := by decide +kernel
theorem dX8_shoot_16 : decode cX8_shoot 16 = .ok (.bipush 9, 2) := by decide +kernel
theorem dX8_shoot_18 : decode cX8_shoot 18 = .ok (.dup2, 1) := by decide +kernel
theorem dX8_shoot_19 : decode cX8_shoot 19 = .ok (.iaload, 1) := by decide +kernel
theorem dX8_shoot_20 : decode cX8_shoot 20 = .ok (.iload_n 1, 1) := by decide +kernel
theorem dX8_shoot_21 : decode cX8_shoot 21 = .ok (.ifCond .lt 11, 3) := by decide +kernel
theorem dX8_shoot_24 : decode cX8_shoot 24 = .ok (.iconst 1, 1) := by decide +kernel
theorem dX8_shoot_25 : decode cX8_shoot 25 = .ok (.iload_n 1, 1) := by decide +kernel
theorem dX8_shoot_26 : decode cX8_shoot 26 = .ok (.ishl, 1) := by decide +kernel
theorem dX8_shoot_27 : decode cX8_shoot 27 = .ok (.iconst (-1), 1) := by decide +kernel
theorem dX8_shoot_28 : decode cX8_shoot 28 = .ok (.ixor, 1) := by decide +kernel
theorem dX8_shoot_29 : decode cX8_shoot 29 = .ok (.goto 4, 3) := by decide +kernel
theorem dX8_shoot_32 : decode cX8_shoot 32 = .ok (.iconst (-1), 1) := by decide +kernel
theorem dX8_shoot_33 : decode cX8_shoot 33 = .ok (.iand, 1) := by decide +kernel
theorem dX8_shoot_34 : decode cX8_shoot 34 = .ok (.iastore, 1) := by decide +kernel
theorem dX8_shoot_35 : decode cX8_shoot 35 = .ok (.iload_n 1, 1) := by decide +kernel
theorem dX8_shoot_36 : decode cX8_shoot 36 = .ok (.ireturn, 1) := by decide +kernel
set_option maxRecDepth 20000 in
theorem ggX8_attempt_X8_remember : GoodIn wsX8_attempt wsX8_remember := goodIn_r _ [7, 8, 9, 10, 45, 46, 47, 48, 49, 50, 51, 52, 53, 54, 55, 56, 57, 58, 59, 60, 61, 62, 63, 64, 65, 66, 67, 68, 69, 70, 71, 72, 73, 74, 75, 76, 77, 78, 79, 80, 81, 82] (by decide +kernel) (by decide +kernel)
set_option maxRecDepth 20000 in
theorem gX8_attempt_X8_remember : GoodIn wsX8_attempt (wsV RX8 207 RX8 yX8_remember wsX8_remember) := goodIn_app (goodIn_of _ (by decide +kernel)) ggX8_attempt_X8_remember
set_option maxRecDepth 20000 in
theorem ggX8_attempt_X8_shoot : GoodIn wsX8_attempt wsX8_shoot := goodIn_r _ [14, 10, 15, 16, 17, 6, 18, 19, 20, 21, 22, 23, 24, 25, 26, 27, 28, 29, 30, 31, 32, 33, 34, 35, 36, 37, 38, 39, 40, 41, 42, 43, 44, 45, 46, 47, 48, 49, 50, 51, 52, 53, 54, 55, 56, 57, 58, 59, 60, 61, 62, 63, 64, 65, 66, 67, 68, 69, 70, 71, 72, 73, 74, 75, 76, 77, 78, 79, 80, 81, 82] (by decide +kernel) (by decide +kernel)
set_option maxRecDepth 20000 in
theorem gX8_attempt_X8_shoot : GoodIn wsX8_attempt (wsV RX8 213 RX8 yX8_shoot wsX8_shoot) := goodIn_app (goodIn_of _ (by decide +kernel)) ggX8_attempt_X8_shoot
theorem dX8_attempt_0 : decode cX8_attempt 0 = .ok (.aload_n 0, 1) := by decide +kernel
theorem dX8_attempt_1 : decode cX8_attempt 1 = .ok (.getfield 90, 3) := by decide +kernel
theorem dX8_attempt_4 : decode cX8_attempt 4 = .ok (.ifCond .ne 6, 3) := by decide +kernel
theorem dX8_attempt_7 : decode cX8_attempt 7 = .ok (.ldc 203, 2) := by decide +kernel
theorem dX8_attempt_9 : decode cX8_attempt 9 = .ok (.ireturn, 1) := by decide +kernel
theorem dX8_attempt_10 : decode cX8_attempt 10 = .ok (.aload_n 0, 1) := by decide +kernel
theorem dX8_attempt_11 : decode cX8_attempt 11 = .ok (.invokevirtual 207, 3) := by decide +kernel
theorem dX8_attempt_14 : decode cX8_attempt 14 = .ok (.aload_n 0, 1) := by decide +kernel
theorem dX8_attempt_15 : decode cX8_attempt 15 = .ok (.invokevirtual 213, 3) := by decide +kernel
theorem dX8_attempt_18 : decode cX8_attempt 18 = .ok (.ireturn, 1) := by decide +kernel
set_option maxRecDepth 20000 in
theorem ggX8_hire_X8_remember : GoodIn wsX8_hire wsX8_remember := goodIn_r _ [8, 9, 10, 1, 18, 19, 20, 21, 22, 23, 24, 25, 26, 27, 28, 29, 30, 31, 32, 33, 34, 35, 36, 37, 38, 39, 40, 41, 42, 43, 44, 45, 46, 47, 48, 49, 50, 51, 52, 53, 54, 55] (by decide +kernel) (by decide +kernel)
set_option maxRecDepth 20000 in
theorem gX8_hire_X8_remember : GoodIn wsX8_hire (wsV RX8 207 RX8 yX8_remember wsX8_remember) := goodIn_app (goodIn_of _ (by decide +kernel)) ggX8_hire_X8_remember
set_option maxRecDepth 20000 in
theorem ggX8_hire_X8_lives : GoodIn wsX8_hire wsX8_lives := goodIn_r _ [14, 1, 15, 16, 7, 17, 18, 19, 20, 21, 22, 23, 24, 25, 26, 27, 28, 29, 30, 31, 32, 33, 34, 35, 36, 37, 38, 39, 40, 41, 42, 43, 44, 45, 46, 47, 48, 49, 50, 51, 52, 53, 54, 55] (by decide +kernel) (by decide +kernel)
set_option maxRecDepth 20000 in
theorem gX8_hire_X8_lives : GoodIn wsX8_hire (wsV RX8 173 RX8 yX8_lives wsX8_lives) := goodIn_app (goodIn_of _ (by decide +kernel)) ggX8_hire_X8_lives
theorem dX8_hire_0 : decode cX8_hire 0 = .ok (.aload_n 0, 1) := by decide +kernel
theorem dX8_hire_1 : decode cX8_hire 1 = .ok (.getfield 28, 3) := by decide +kernel
theorem dX8_hire_4 : decode cX8_hire 4 = .ok (.bipush 9, 2) := by decide +kernel
theorem dX8_hire_6 : decode cX8_hire 6 = .ok (.iaload, 1) := by decide +kernel
theorem dX8_hire_7 : decode cX8_hire 7 = .ok (.ifCond .ne 6, 3) := by decide +kernel
theorem dX8_hire_10 : decode cX8_hire 10 = .ok (.ldc 203, 2) := by decide +kernel
theorem dX8_hire_12 : decode cX8_hire 12 = .ok (.ireturn, 1) := by decide +kernel
theorem dX8_hire_13 : decode cX8_hire 13 = .ok (.aload_n 0, 1) := by decide +kernel
theorem dX8_hire_14 : decode cX8_hire 14 = .ok (.getfield 28, 3) := by decide +kernel
theorem dX8_hire_17 : decode cX8_hire 17 = .ok (.bipush 8, 2) := by decide +kernel
theorem dX8_hire_19 : decode cX8_hire 19 = .ok (.iaload, 1) := by decide +kernel
theorem dX8_hire_20 : decode cX8_hire 20 = .ok (.bipush 8, 2) := by decide +kernel
theorem dX8_hire_22 : decode cX8_hire 22 = .ok (.if_icmp .ne 6, 3) := by decide +kernel
theorem dX8_hire_25 : decode cX8_hire 25 = .ok (.ldc 107, 2) := by decide +kernel
theorem dX8_hire_27 : decode cX8_hire 27 = .ok (.ireturn, 1) := by decide +kernel
theorem dX8_hire_28 : decode cX8_hire 28 = .ok (.aload_n 0, 1) := by decide +kernel
theorem dX8_hire_29 : decode cX8_hire 29 = .ok (.invokevirtual 207, 3) := by decide +kernel
theorem dX8_hire_32 : decode cX8_hire 32 = .ok (.iconst 0, 1) := by decide +kernel
theorem dX8_hire_33 : decode cX8_hire 33 = .ok (.istore_n 1, 1) := by decide +kernel
theorem dX8_hire_34 : decode cX8_hire 34 = .ok (.iconst 0, 1) := by decide +kernel
theorem dX8_hire_35 : decode cX8_hire 35 = .ok (.istore_n 2, 1) := by decide +kernel
theorem dX8_hire_36 : decode cX8_hire 36 = .ok (.iload_n 2, 1) := by decide +kernel
theorem dX8_hire_37 : decode cX8_hire 37 = .ok (.aload_n 0, 1) := by decide +kernel
theorem dX8_hire_38 : decode cX8_hire 38 = .ok (.getfield 28, 3) := by decide +kernel
theorem dX8_hire_41 : decode cX8_hire 41 = .ok (.bipush 8, 2) := by decide +kernel
theorem dX8_hire_43 : decode cX8_hire 43 = .ok (.iaload, 1) := by decide +kernel
theorem dX8_hire_44 : decode cX8_hire 44 = .ok (.if_icmp .ge 23, 3) := by decide +kernel
theorem dX8_hire_47 : decode cX8_hire 47 = .ok (.aload_n 0, 1) := by decide +kernel
theorem dX8_hire_48 : decode cX8_hire 48 = .ok (.iload_n 2, 1) := by decide +kernel
theorem dX8_hire_49 : decode cX8_hire 49 = .ok (.invokevirtual 173, 3) := by decide +kernel
theorem dX8_hire_52 : decode cX8_hire 52 = .ok (.ifCond .eq 7, 3) := by decide +kernel
theorem dX8_hire_55 : decode cX8_hire 55 = .ok (.iload_n 2, 1) := by decide +kernel
theorem dX8_hire_56 : decode cX8_hire 56 = .ok (.goto 4, 3) := by decide +kernel
theorem dX8_hire_59 : decode cX8_hire 59 = .ok (.iload_n 1, 1) := by decide +kernel
theorem dX8_hire_60 : decode cX8_hire 60 = .ok (.istore_n 1, 1) := by decide +kernel
theorem dX8_hire_61 : decode cX8_hire 61 = .ok (.iinc 2 1, 3) := by decide +kernel
theorem dX8_hire_64 : decode cX8_hire 64 = .ok (.goto (-28), 3) := by decide +kernel
theorem dX8_hire_67 : decode cX8_hire 67 = .ok (.aload_n 0, 1) := by decide +kernel
theorem dX8_hire_68 : decode cX8_hire 68 = .ok (.getfield 28, 3) := by decide +kernel
theorem dX8_hire_71 : decode cX8_hire 71 = .ok (.bipush 8, 2) := by decide +kernel
theorem dX8_hire_73 : decode cX8_hire 73 = .ok (.iaload, 1) := by decide +kernel
theorem dX8_hire_74 : decode cX8_hire 74 = .ok (.istore_n 2, 1) := by decide +kernel
theorem dX8_hire_75 : decode cX8_hire 75 = .ok (.aload_n 0, 1) := by decide +kernel
theorem dX8_hire_76 : decode cX8_hire 76 = .ok (.getfield 28, 3) := by decide +kernel
theorem dX8_hire_79 : decode cX8_hire 79 = .ok (.iload_n 2, 1) := by decide +kernel
theorem dX8_hire_80 : decode cX8_hire 80 = .ok (.aload_n 0, 1) := by decide +kernel
theorem dX8_hire_81 : decode cX8_hire 81 = .ok (.getfield 28, 3) := by decide +kernel
theorem dX8_hire_84 : decode cX8_hire 84 = .ok (.iload_n 1, 1) := by decide +kernel
theorem dX8_hire_85 : decode cX8_hire 85 = .ok (.iaload, 1) := by decide +kernel
theorem dX8_hire_86 : decode cX8_hire 86 = .ok (.iastore, 1) := by decide +kernel
theorem dX8_hire_87 : decode cX8_hire 87 = .ok (.aload_n 0, 1) := by decide +kernel
theorem dX8_hire_88 : decode cX8_hire 88 = .ok (.getfield 28, 3) := by decide +kernel
theorem dX8_hire_91 : decode cX8_hire 91 = .ok (.bipush 9, 2) := by decide +kernel
theorem dX8_hire_93 : decode cX8_hire 93 = .ok (.dup2, 1) := by decide +kernel
theorem dX8_hire_94 : decode cX8_hire 94 = .ok (.iaload, 1) := by decide +kernel
theorem dX8_hire_95 : decode cX8_hire 95 = .ok (.iconst 1, 1) := by decide +kernel
theorem dX8_hire_96 : decode cX8_hire 96 = .ok (.iload_n 2, 1) := by decide +kernel
theorem dX8_hire_97 : decode cX8_hire 97 = .ok (.ishl, 1) := by decide +kernel
theorem dX8_hire_98 : decode cX8_hire 98 = .ok (.ior, 1) := by decide +kernel
theorem dX8_hire_99 : decode cX8_hire 99 = .ok (.iastore, 1) := by decide +kernel
theorem dX8_hire_100 : decode cX8_hire 100 = .ok (.aload_n 0, 1) := by decide +kernel
theorem dX8_hire_101 : decode cX8_hire 101 = .ok (.getfield 28, 3) := by decide +kernel
theorem dX8_hire_104 : decode cX8_hire 104 = .ok (.bipush 8, 2) := by decide +kernel
theorem dX8_hire_106 : decode cX8_hire 106 = .ok (.dup2, 1) := by decide +kernel
theorem dX8_hire_107 : decode cX8_hire 107 = .ok (.iaload, 1) := by decide +kernel
theorem dX8_hire_108 : decode cX8_hire 108 = .ok (.iconst 1, 1) := by decide +kernel
theorem dX8_hire_109 : decode cX8_hire 109 = .ok (.iadd, 1) := by decide +kernel
theorem dX8_hire_110 : decode cX8_hire 110 = .ok (.iastore, 1) := by decide +kernel
theorem dX8_hire_111 : decode cX8_hire 111 = .ok (.iload_n 2, 1) := by decide +kernel
theorem dX8_hire_112 : decode cX8_hire 112 = .ok (.ireturn, 1) := by decide +kernel
theorem dX8_draw_0 : decode cX8_draw 0 = .ok (.aload_n 0, 1) := by decide +kernel
theorem dX8_draw_1 : decode cX8_draw 1 = .ok (.aload_n 0, 1) := by decide +kernel
theorem dX8_draw_2 : decode cX8_draw 2 = .ok (.getfield 216, 3) := by decide +kernel
theorem dX8_draw_5 : decode cX8_draw 5 = .ok (.i2l, 1) := by decide +kernel
theorem dX8_draw_6 : decode cX8_draw 6 = .ok (.ldc2_w 219, 3) := by decide +kernel
theorem dX8_draw_9 : decode cX8_draw 9 = .ok (.lmul, 1) := by decide +kernel
theorem dX8_draw_10 : decode cX8_draw 10 = .ok (.ldc2_w 221, 3) := by decide +kernel
theorem dX8_draw_13 : decode cX8_draw 13 = .ok (.ladd, 1) := by decide +kernel
theorem dX8_draw_14 : decode cX8_draw 14 = .ok (.ldc2_w 223, 3) := by decide +kernel
theorem dX8_draw_17 : decode cX8_draw 17 = .ok (.lrem, 1) := by decide +kernel
theorem dX8_draw_18 : decode cX8_draw 18 = .ok (.l2i, 1) := by decide +kernel
theorem dX8_draw_19 : decode cX8_draw 19 = .ok (.putfield 216, 3) := by decide +kernel
theorem dX8_draw_22 : decode cX8_draw 22 = .ok (.aload_n 0, 1) := by decide +kernel
theorem dX8_draw_23 : decode cX8_draw 23 = .ok (.getfield 216, 3) := by decide +kernel
theorem dX8_draw_26 : decode cX8_draw 26 = .ok (.ldc 225, 2) := by decide +kernel
theorem dX8_draw_28 : decode cX8_draw 28 = .ok (.idiv, 1) := by decide +kernel
theorem dX8_draw_29 : decode cX8_draw 29 = .ok (.iload_n 1, 1) := by decide +kernel
theorem dX8_draw_30 : decode cX8_draw 30 = .ok (.irem, 1) := by decide +kernel
theorem dX8_draw_31 : decode cX8_draw 31 = .ok (.ireturn, 1) := by decide +kernel
set_option maxRecDepth 20000 in
theorem ggX8_drift_X8_daysRefused : GoodIn wsX8_drift wsX8_daysRefused := goodIn_r _ [6, 7, 8, 9, 10, 1, 11, 12, 13, 5, 14, 84, 85, 86, 87, 88, 89, 90, 91, 92, 93, 94, 95, 96, 97, 98, 99, 100, 101, 102, 103, 104, 105, 106, 107, 108, 109, 110, 111, 112, 113, 114, 115, 116, 117, 118, 119, 120, 121] (by decide +kernel) (by decide +kernel)
set_option maxRecDepth 20000 in
theorem gX8_drift_X8_daysRefused : GoodIn wsX8_drift (wsV RX8 204 RX8 yX8_daysRefused wsX8_daysRefused) := goodIn_app (goodIn_of _ (by decide +kernel)) ggX8_drift_X8_daysRefused
set_option maxRecDepth 20000 in
theorem ggX8_drift_X8_remember : GoodIn wsX8_drift wsX8_remember := goodIn_r _ [18, 19, 20, 1, 84, 85, 86, 87, 88, 89, 90, 91, 92, 93, 94, 95, 96, 97, 98, 99, 100, 101, 102, 103, 104, 105, 106, 107, 108, 109, 110, 111, 112, 113, 114, 115, 116, 117, 118, 119, 120, 121] (by decide +kernel) (by decide +kernel)
set_option maxRecDepth 20000 in
theorem gX8_drift_X8_remember : GoodIn wsX8_drift (wsV RX8 207 RX8 yX8_remember wsX8_remember) := goodIn_app (goodIn_of _ (by decide +kernel)) ggX8_drift_X8_remember
set_option maxRecDepth 20000 in
theorem ggX8_drift_X8_draw : GoodIn wsX8_drift wsX8_draw := goodIn_r _ [24, 25, 26, 27, 28, 29, 84, 85, 86, 87, 88, 89, 90, 91, 92, 93, 94, 95, 96, 97, 98, 99, 100, 101, 102, 103, 104, 105, 106, 107, 108, 109, 110, 111, 112, 113, 114, 115, 116, 117, 118, 119, 120, 121] (by decide +kernel) (by decide +kernel)
set_option maxRecDepth 20000 in
theorem gX8_drift_X8_draw : GoodIn wsX8_drift (wsV RX8 226 RX8 yX8_draw wsX8_draw) := goodIn_app (goodIn_of _ (by decide +kernel)) ggX8_drift_X8_draw
set_option maxRecDepth 20000 in
theorem ggX8_drift_X8_dangerOn : GoodIn wsX8_drift wsX8_dangerOn := goodIn_r _ [33, 34, 35, 84, 85, 86, 87, 88, 89, 90, 91, 92, 93, 94, 95, 96, 97, 98, 99, 100, 101, 102, 103, 104, 105, 106, 107, 108, 109, 110, 111, 112, 113, 114, 115, 116, 117, 118, 119, 120, 121] (by decide +kernel) (by decide +kernel)
set_option maxRecDepth 20000 in
theorem gX8_drift_X8_dangerOn : GoodIn wsX8_drift (wsV RX8 229 RX8 yX8_dangerOn wsX8_dangerOn) := goodIn_app (goodIn_of _ (by decide +kernel)) ggX8_drift_X8_dangerOn
set_option maxRecDepth 20000 in
theorem ggX8_drift_X8_shoot : GoodIn wsX8_drift wsX8_shoot := goodIn_r _ [39, 1, 40, 41, 42, 5, 43, 44, 45, 46, 47, 48, 49, 50, 51, 52, 53, 54, 34, 55, 56, 57, 58, 59, 60, 61, 62, 63, 64, 65, 66, 67, 35, 84, 85, 86, 87, 88, 89, 90, 91, 92, 93, 94, 95, 96, 97, 98, 99, 100, 101, 102, 103, 104, 105, 106, 107, 108, 109, 110, 111, 112, 113, 114, 115, 116, 117, 118, 119, 120, 121] (by decide +kernel) (by decide +kernel)
set_option maxRecDepth 20000 in
theorem gX8_drift_X8_shoot : GoodIn wsX8_drift (wsV RX8 213 RX8 yX8_shoot wsX8_shoot) := goodIn_app (goodIn_of _ (by decide +kernel)) ggX8_drift_X8_shoot
set_option maxRecDepth 20000 in
theorem ggX8_drift_X8_pass : GoodIn wsX8_drift wsX8_pass := goodIn_r _ [71, 1, 9, 72, 40, 41, 42, 5, 43, 44, 45, 46, 47, 48, 49, 50, 51, 52, 53, 54, 34, 55, 56, 57, 58, 59, 60, 61, 62, 63, 64, 65, 66, 67, 35, 73, 74, 75, 76, 77, 78, 79, 80, 81, 82, 83, 84, 85, 86, 87, 88, 89, 90, 91, 92, 93, 94, 95, 96, 97, 98, 99, 100, 101, 102, 103, 104, 105, 106, 107, 108, 109, 110, 111, 112, 113, 114, 115, 116, 117, 118, 119, 120, 121] (by decide +kernel) (by decide +kernel)
set_option maxRecDepth 20000 in
theorem gX8_drift_X8_pass : GoodIn wsX8_drift (wsV RX8 210 RX8 yX8_pass wsX8_pass) := goodIn_app (goodIn_of _ (by decide +kernel)) ggX8_drift_X8_pass
set_option maxRecDepth 20000 in
theorem ggX8_drift_X8_bits : GoodIn wsX8_drift wsX8_bits := goodIn_r _ [75] (by decide +kernel) (by decide +kernel)
set_option maxRecDepth 20000 in
theorem gX8_drift_X8_bits : GoodIn wsX8_drift (va_wsS RX8 180 yX8_bits wsX8_bits) := goodIn_app (goodIn_of _ (by decide +kernel)) ggX8_drift_X8_bits
theorem dX8_drift_0 : decode cX8_drift 0 = .ok (.aload_n 0, 1) := by decide +kernel
theorem dX8_drift_1 : decode cX8_drift 1 = .ok (.iload_n 1, 1) := by decide +kernel
theorem dX8_drift_2 : decode cX8_drift 2 = .ok (.invokevirtual 204, 3) := by decide +kernel
theorem dX8_drift_5 : decode cX8_drift 5 = .ok (.istore_n 2, 1) := by decide +kernel
theorem dX8_drift_6 : decode cX8_drift 6 = .ok (.iload_n 2, 1) := by decide +kernel
theorem dX8_drift_7 : decode cX8_drift 7 = .ok (.ifCond .eq 5, 3) := by decide +kernel
theorem dX8_drift_10 : decode cX8_drift 10 = .ok (.iload_n 2, 1) := by decide +kernel
theorem dX8_drift_11 : decode cX8_drift 11 = .ok (.ireturn, 1) := by decide +kernel
theorem dX8_drift_12 : decode cX8_drift 12 = .ok (.aload_n 0, 1) := by decide +kernel
theorem dX8_drift_13 : decode cX8_drift 13 = .ok (.invokevirtual 207, 3) := by decide +kernel
theorem dX8_drift_16 : decode cX8_drift 16 = .ok (.iconst 0, 1) := by decide +kernel
theorem dX8_drift_17 : decode cX8_drift 17 = .ok (.istore_n 3, 1) := by decide +kernel
theorem dX8_drift_18 : decode cX8_drift 18 = .ok (.iload_n 3, 1) := by decide +kernel
theorem dX8_drift_19 : decode cX8_drift 19 = .ok (.iload_n 1, 1) := by decide +kernel
theorem dX8_drift_20 : decode cX8_drift 20 = .ok (.if_icmp .ge 39, 3) := by decide +kernel
theorem dX8_drift_23 : decode cX8_drift 23 = .ok (.aload_n 0, 1) := by decide +kernel
theorem dX8_drift_24 : decode cX8_drift 24 = .ok (.bipush 100, 2) := by decide +kernel
theorem dX8_drift_26 : decode cX8_drift 26 = .ok (.invokevirtual 226, 3) := by decide +kernel
theorem dX8_drift_29 : decode cX8_drift 29 = .ok (.aload_n 0, 1) := by decide +kernel
theorem dX8_drift_30 : decode cX8_drift 30 = .ok (.aload_n 0, 1) := by decide +kernel
theorem dX8_drift_31 : decode cX8_drift 31 = .ok (.getfield 28, 3) := by decide +kernel
theorem dX8_drift_34 : decode cX8_drift 34 = .ok (.bipush 11, 2) := by decide +kernel
theorem dX8_drift_36 : decode cX8_drift 36 = .ok (.iaload, 1) := by decide +kernel
theorem dX8_drift_37 : decode cX8_drift 37 = .ok (.invokevirtual 229, 3) := by decide +kernel
theorem dX8_drift_40 : decode cX8_drift 40 = .ok (.if_icmp .ge 9, 3) := by decide +kernel
theorem dX8_drift_43 : decode cX8_drift 43 = .ok (.aload_n 0, 1) := by decide +kernel
theorem dX8_drift_44 : decode cX8_drift 44 = .ok (.invokevirtual 213, 3) := by decide +kernel
theorem dX8_drift_47 : decode cX8_drift 47 = .ok (.istore 4, 2) := by decide +kernel
theorem dX8_drift_49 : decode cX8_drift 49 = .ok (.aload_n 0, 1) := by decide +kernel
theorem dX8_drift_50 : decode cX8_drift 50 = .ok (.invokevirtual 210, 3) := by decide +kernel
theorem dX8_drift_53 : decode cX8_drift 53 = .ok (.iinc 3 1, 3) := by decide +kernel
theorem dX8_drift_56 : decode cX8_drift 56 = .ok (.goto (-38), 3) := by decide +kernel
theorem dX8_drift_59 : decode cX8_drift 59 = .ok (.aload_n 0, 1) := by decide +kernel
theorem dX8_drift_60 : decode cX8_drift 60 = .ok (.getfield 28, 3) := by decide +kernel
theorem dX8_drift_63 : decode cX8_drift 63 = .ok (.bipush 9, 2) := by decide +kernel
theorem dX8_drift_65 : decode cX8_drift 65 = .ok (.iaload, 1) := by decide +kernel
theorem dX8_drift_66 : decode cX8_drift 66 = .ok (.invokestatic 180, 3) := by decide +kernel
theorem dX8_drift_69 : decode cX8_drift 69 = .ok (.ireturn, 1) := by decide +kernel
theorem dX8_undo_0 : decode cX8_undo 0 = .ok (.aload_n 0, 1) := by decide +kernel
theorem dX8_undo_1 : decode cX8_undo 1 = .ok (.getfield 163, 3) := by decide +kernel
theorem dX8_undo_4 : decode cX8_undo 4 = .ok (.ifCond .ne 6, 3) := by decide +kernel
theorem dX8_undo_7 : decode cX8_undo 7 = .ok (.ldc 203, 2) := by decide +kernel
theorem dX8_undo_9 : decode cX8_undo 9 = .ok (.ireturn, 1) := by decide +kernel
theorem dX8_undo_10 : decode cX8_undo 10 = .ok (.aload_n 0, 1) := by decide +kernel
theorem dX8_undo_11 : decode cX8_undo 11 = .ok (.dup, 1) := by decide +kernel
theorem dX8_undo_12 : decode cX8_undo 12 = .ok (.getfield 163, 3) := by decide +kernel
theorem dX8_undo_15 : decode cX8_undo 15 = .ok (.iconst 1, 1) := by decide +kernel
theorem dX8_undo_16 : decode cX8_undo 16 = .ok (.isub, 1) := by decide +kernel
theorem dX8_undo_17 : decode cX8_undo 17 = .ok (.putfield 163, 3) := by decide +kernel
theorem dX8_undo_20 : decode cX8_undo 20 = .ok (.iconst 0, 1) := by decide +kernel
theorem dX8_undo_21 : decode cX8_undo 21 = .ok (.istore_n 1, 1) := by decide +kernel
theorem dX8_undo_22 : decode cX8_undo 22 = .ok (.iload_n 1, 1) := by decide +kernel
theorem dX8_undo_23 : decode cX8_undo 23 = .ok (.bipush 13, 2) := by decide +kernel
theorem dX8_undo_25 : decode cX8_undo 25 = .ok (.if_icmp .ge 29, 3) := by decide +kernel
theorem dX8_undo_28 : decode cX8_undo 28 = .ok (.aload_n 0, 1) := by decide +kernel
theorem dX8_undo_29 : decode cX8_undo 29 = .ok (.getfield 28, 3) := by decide +kernel
theorem dX8_undo_32 : decode cX8_undo 32 = .ok (.iload_n 1, 1) := by decide +kernel
theorem dX8_undo_33 : decode cX8_undo 33 = .ok (.aload_n 0, 1) := by decide +kernel
theorem dX8_undo_34 : decode cX8_undo 34 = .ok (.getfield 62, 3) := by decide +kernel
theorem dX8_undo_37 : decode cX8_undo 37 = .ok (.bipush 13, 2) := by decide +kernel
theorem dX8_undo_39 : decode cX8_undo 39 = .ok (.aload_n 0, 1) := by decide +kernel
theorem dX8_undo_40 : decode cX8_undo 40 = .ok (.getfield 163, 3) := by decide +kernel
theorem dX8_undo_43 : decode cX8_undo 43 = .ok (.imul, 1) := by decide +kernel
theorem dX8_undo_44 : decode cX8_undo 44 = .ok (.iload_n 1, 1) := by decide +kernel
theorem dX8_undo_45 : decode cX8_undo 45 = .ok (.iadd, 1) := by decide +kernel
theorem dX8_undo_46 : decode cX8_undo 46 = .ok (.iaload, 1) := by decide +kernel
theorem dX8_undo_47 : decode cX8_undo 47 = .ok (.iastore, 1) := by decide +kernel
theorem dX8_undo_48 : decode cX8_undo 48 = .ok (.iinc 1 1, 3) := by decide +kernel
theorem dX8_undo_51 : decode cX8_undo 51 = .ok (.goto (-29), 3) := by decide +kernel
theorem dX8_undo_54 : decode cX8_undo 54 = .ok (.aload_n 0, 1) := by decide +kernel
theorem dX8_undo_55 : decode cX8_undo 55 = .ok (.getfield 163, 3) := by decide +kernel
theorem dX8_undo_58 : decode cX8_undo 58 = .ok (.ireturn, 1) := by decide +kernel
set_option maxRecDepth 20000 in
theorem ggX8_would_X8_in : GoodIn wsX8_would wsX8_in := goodIn_r _ [9] (by decide +kernel) (by decide +kernel)
set_option maxRecDepth 20000 in
theorem gX8_would_X8_in : GoodIn wsX8_would (va_wsS RX8 97 yX8_in wsX8_in) := goodIn_app (goodIn_of _ (by decide +kernel)) ggX8_would_X8_in
set_option maxRecDepth 20000 in
theorem ggX8_would_X8_lives : GoodIn wsX8_would wsX8_lives := goodIn_r _ [13, 5, 14, 15, 8, 16, 24, 25, 26, 27, 28, 29, 30, 31, 32, 33, 34, 35, 36, 37, 38, 39, 40, 41, 42, 43, 44, 45, 46, 47, 48, 49, 50, 51, 52, 53, 54, 55, 56, 57, 58, 59, 60, 61] (by decide +kernel) (by decide +kernel)
set_option maxRecDepth 20000 in
theorem gX8_would_X8_lives : GoodIn wsX8_would (wsV RX8 173 RX8 yX8_lives wsX8_lives) := goodIn_app (goodIn_of _ (by decide +kernel)) ggX8_would_X8_lives
set_option maxRecDepth 20000 in
theorem ggX8_would_X8_goesBy : GoodIn wsX8_would wsX8_goesBy := goodIn_r _ [20, 21, 22, 23, 14, 15, 8, 16, 24, 25, 26, 27, 28, 29, 30, 31, 32, 33, 34, 35, 36, 37, 38, 39, 40, 41, 42, 43, 44, 45, 46, 47, 48, 49, 50, 51, 52, 53, 54, 55, 56, 57, 58, 59, 60, 61] (by decide +kernel) (by decide +kernel)
set_option maxRecDepth 20000 in
theorem gX8_would_X8_goesBy : GoodIn wsX8_would (wsV RX8 166 RX8 yX8_goesBy wsX8_goesBy) := goodIn_app (goodIn_of _ (by decide +kernel)) ggX8_would_X8_goesBy
theorem dX8_would_0 : decode cX8_would 0 = .ok (.iload_n 1, 1) := by decide +kernel
theorem dX8_would_1 : decode cX8_would 1 = .ok (.i2l, 1) := by decide +kernel
theorem dX8_would_2 : decode cX8_would 2 = .ok (.lconst 0, 1) := by decide +kernel
theorem dX8_would_3 : decode cX8_would 3 = .ok (.ldc2_w 232, 3) := by decide +kernel
theorem dX8_would_6 : decode cX8_would 6 = .ok (.invokestatic 97, 3) := by decide +kernel
theorem dX8_would_9 : decode cX8_would 9 = .ok (.ifCond .eq 27, 3) := by decide +kernel
theorem dX8_would_12 : decode cX8_would 12 = .ok (.iload_n 2, 1) := by decide +kernel
theorem dX8_would_13 : decode cX8_would 13 = .ok (.i2l, 1) := by decide +kernel
theorem dX8_would_14 : decode cX8_would 14 = .ok (.lconst 0, 1) := by decide +kernel
theorem dX8_would_15 : decode cX8_would 15 = .ok (.ldc2_w 234, 3) := by decide +kernel
theorem dX8_would_18 : decode cX8_would 18 = .ok (.invokestatic 97, 3) := by decide +kernel
theorem dX8_would_21 : decode cX8_would 21 = .ok (.ifCond .eq 15, 3) := by decide +kernel
theorem dX8_would_24 : decode cX8_would 24 = .ok (.iload_n 3, 1) := by decide +kernel
theorem dX8_would_25 : decode cX8_would 25 = .ok (.i2l, 1) := by decide +kernel
theorem dX8_would_26 : decode cX8_would 26 = .ok (.lconst 0, 1) := by decide +kernel
theorem dX8_would_27 : decode cX8_would 27 = .ok (.ldc2_w 236, 3) := by decide +kernel
theorem dX8_would_30 : decode cX8_would 30 = .ok (.invokestatic 97, 3) := by decide +kernel
theorem dX8_would_33 : decode cX8_would 33 = .ok (.ifCond .ne 6, 3) := by decide +kernel
theorem dX8_would_36 : decode cX8_would 36 = .ok (.ldc 103, 2) := by decide +kernel
theorem dX8_would_38 : decode cX8_would 38 = .ok (.ireturn, 1) := by decide +kernel
theorem dX8_would_39 : decode cX8_would 39 = .ok (.iconst 0, 1) := by decide +kernel
theorem dX8_would_40 : decode cX8_would 40 = .ok (.istore 4, 2) := by decide +kernel
theorem dX8_would_42 : decode cX8_would 42 = .ok (.iload 4, 2) := by decide +kernel
theorem dX8_would_44 : decode cX8_would 44 = .ok (.aload_n 0, 1) := by decide +kernel
theorem dX8_would_45 : decode cX8_would 45 = .ok (.getfield 28, 3) := by decide +kernel
theorem dX8_would_48 : decode cX8_would 48 = .ok (.bipush 8, 2) := by decide +kernel
theorem dX8_would_50 : decode cX8_would 50 = .ok (.iaload, 1) := by decide +kernel
theorem dX8_would_51 : decode cX8_would 51 = .ok (.if_icmp .ge 33, 3) := by decide +kernel
theorem dX8_would_54 : decode cX8_would 54 = .ok (.aload_n 0, 1) := by decide +kernel
theorem dX8_would_55 : decode cX8_would 55 = .ok (.iload 4, 2) := by decide +kernel
theorem dX8_would_57 : decode cX8_would 57 = .ok (.invokevirtual 173, 3) := by decide +kernel
theorem dX8_would_60 : decode cX8_would 60 = .ok (.ifCond .eq 18, 3) := by decide +kernel
theorem dX8_would_63 : decode cX8_would 63 = .ok (.aload_n 0, 1) := by decide +kernel
theorem dX8_would_64 : decode cX8_would 64 = .ok (.iload 4, 2) := by decide +kernel
theorem dX8_would_66 : decode cX8_would 66 = .ok (.iload_n 1, 1) := by decide +kernel
theorem dX8_would_67 : decode cX8_would 67 = .ok (.iload_n 2, 1) := by decide +kernel
theorem dX8_would_68 : decode cX8_would 68 = .ok (.iload_n 3, 1) := by decide +kernel
theorem dX8_would_69 : decode cX8_would 69 = .ok (.invokevirtual 166, 3) := by decide +kernel
theorem dX8_would_72 : decode cX8_would 72 = .ok (.ifCond .eq 6, 3) := by decide +kernel
theorem dX8_would_75 : decode cX8_would 75 = .ok (.iload 4, 2) := by decide +kernel
theorem dX8_would_77 : decode cX8_would 77 = .ok (.ireturn, 1) := by decide +kernel
theorem dX8_would_78 : decode cX8_would 78 = .ok (.iinc 4 1, 3) := by decide +kernel
theorem dX8_would_81 : decode cX8_would 81 = .ok (.goto (-39), 3) := by decide +kernel
theorem dX8_would_84 : decode cX8_would 84 = .ok (.iconst (-1), 1) := by decide +kernel
theorem dX8_would_85 : decode cX8_would 85 = .ok (.ireturn, 1) := by decide +kernel
set_option maxRecDepth 20000 in
theorem ggX8_firstNobody_X8_in : GoodIn wsX8_firstNobody wsX8_in := goodIn_r _ [7] (by decide +kernel) (by decide +kernel)
set_option maxRecDepth 20000 in
theorem gX8_firstNobody_X8_in : GoodIn wsX8_firstNobody (va_wsS RX8 97 yX8_in wsX8_in) := goodIn_app (goodIn_of _ (by decide +kernel)) ggX8_firstNobody_X8_in
set_option maxRecDepth 20000 in
theorem ggX8_firstNobody_X8_seenOn : GoodIn wsX8_firstNobody wsX8_seenOn := goodIn_r _ [11, 3, 12, 13, 14, 6, 15, 16, 17, 18, 19, 20, 21, 22, 23, 24, 25, 26, 27, 28, 29, 30, 31, 32, 33, 34, 35, 36, 37, 38, 39, 40, 41, 42, 43, 44, 45, 46, 47, 48, 49, 50, 51, 52, 53, 54, 55, 56, 57, 58, 59, 60, 61, 62, 63, 64, 65, 66, 67, 68, 69, 70, 71, 72, 73, 74, 75] (by decide +kernel) (by decide +kernel)
set_option maxRecDepth 20000 in
theorem gX8_firstNobody_X8_seenOn : GoodIn wsX8_firstNobody (wsV RX8 184 RX8 yX8_seenOn wsX8_seenOn) := goodIn_app (goodIn_of _ (by decide +kernel)) ggX8_firstNobody_X8_seenOn
theorem dX8_firstNobody_0 : decode cX8_firstNobody 0 = .ok (.iload_n 1, 1) := by decide +kernel
theorem dX8_firstNobody_1 : decode cX8_firstNobody 1 = .ok (.i2l, 1) := by decide +kernel
theorem dX8_firstNobody_2 : decode cX8_firstNobody 2 = .ok (.lconst 0, 1) := by decide +kernel
theorem dX8_firstNobody_3 : decode cX8_firstNobody 3 = .ok (.ldc2_w 201, 3) := by decide +kernel
theorem dX8_firstNobody_6 : decode cX8_firstNobody 6 = .ok (.invokestatic 97, 3) := by decide +kernel
theorem dX8_firstNobody_9 : decode cX8_firstNobody 9 = .ok (.ifCond .ne 6, 3) := by decide +kernel
theorem dX8_firstNobody_12 : decode cX8_firstNobody 12 = .ok (.ldc 103, 2) := by decide +kernel
theorem dX8_firstNobody_14 : decode cX8_firstNobody 14 = .ok (.ireturn, 1) := by decide +kernel
theorem dX8_firstNobody_15 : decode cX8_firstNobody 15 = .ok (.iconst 0, 1) := by decide +kernel
theorem dX8_firstNobody_16 : decode cX8_firstNobody 16 = .ok (.istore_n 2, 1) := by decide +kernel
theorem dX8_firstNobody_17 : decode cX8_firstNobody 17 = .ok (.iload_n 2, 1) := by decide +kernel
theorem dX8_firstNobody_18 : decode cX8_firstNobody 18 = .ok (.iload_n 1, 1) := by decide +kernel
theorem dX8_firstNobody_19 : decode cX8_firstNobody 19 = .ok (.if_icmp .ge 35, 3) := by decide +kernel
theorem dX8_firstNobody_22 : decode cX8_firstNobody 22 = .ok (.aload_n 0, 1) := by decide +kernel
theorem dX8_firstNobody_23 : decode cX8_firstNobody 23 = .ok (.aload_n 0, 1) := by decide +kernel
theorem dX8_firstNobody_24 : decode cX8_firstNobody 24 = .ok (.getfield 28, 3) := by decide +kernel
theorem dX8_firstNobody_27 : decode cX8_firstNobody 27 = .ok (.bipush 11, 2) := by decide +kernel
theorem dX8_firstNobody_29 : decode cX8_firstNobody 29 = .ok (.iaload, 1) := by decide +kernel
theorem dX8_firstNobody_30 : decode cX8_firstNobody 30 = .ok (.iload_n 2, 1) := by decide +kernel
theorem dX8_firstNobody_31 : decode cX8_firstNobody 31 = .ok (.iadd, 1) := by decide +kernel
theorem dX8_firstNobody_32 : decode cX8_firstNobody 32 = .ok (.invokevirtual 184, 3) := by decide +kernel
theorem dX8_firstNobody_35 : decode cX8_firstNobody 35 = .ok (.ifCond .ge 13, 3) := by decide +kernel
theorem dX8_firstNobody_38 : decode cX8_firstNobody 38 = .ok (.aload_n 0, 1) := by decide +kernel
theorem dX8_firstNobody_39 : decode cX8_firstNobody 39 = .ok (.getfield 28, 3) := by decide +kernel
theorem dX8_firstNobody_42 : decode cX8_firstNobody 42 = .ok (.bipush 11, 2) := by decide +kernel
theorem dX8_firstNobody_44 : decode cX8_firstNobody 44 = .ok (.iaload, 1) := by decide +kernel
theorem dX8_firstNobody_45 : decode cX8_firstNobody 45 = .ok (.iload_n 2, 1) := by decide +kernel
theorem dX8_firstNobody_46 : decode cX8_firstNobody 46 = .ok (.iadd, 1) := by decide +kernel
theorem dX8_firstNobody_47 : decode cX8_firstNobody 47 = .ok (.ireturn, 1) := by decide +kernel
theorem dX8_firstNobody_48 : decode cX8_firstNobody 48 = .ok (.iinc 2 1, 3) := by decide +kernel
theorem dX8_firstNobody_51 : decode cX8_firstNobody 51 = .ok (.goto (-34), 3) := by decide +kernel
theorem dX8_firstNobody_54 : decode cX8_firstNobody 54 = .ok (.iconst (-1), 1) := by decide +kernel
theorem dX8_firstNobody_55 : decode cX8_firstNobody 55 = .ok (.ireturn, 1) := by decide +kernel
theorem dX8_isSent_0 : decode cX8_isSent 0 = .ok (.iconst 0, 1) := by decide +kernel
theorem dX8_isSent_1 : decode cX8_isSent 1 = .ok (.istore_n 3, 1) := by decide +kernel
theorem dX8_isSent_2 : decode cX8_isSent 2 = .ok (.iconst 0, 1) := by decide +kernel
theorem dX8_isSent_3 : decode cX8_isSent 3 = .ok (.istore 4, 2) := by decide +kernel
theorem dX8_isSent_5 : decode cX8_isSent 5 = .ok (.iload 4, 2) := by decide +kernel
theorem dX8_isSent_7 : decode cX8_isSent 7 = .ok (.iload_n 2, 1) := by decide +kernel
theorem dX8_isSent_8 : decode cX8_isSent 8 = .ok (.if_icmp .ge 30, 3) := by decide +kernel
theorem dX8_isSent_11 : decode cX8_isSent 11 = .ok (.iload_n 3, 1) := by decide +kernel
theorem dX8_isSent_12 : decode cX8_isSent 12 = .ok (.ifCond .ne 14, 3) := by decide +kernel
theorem dX8_isSent_15 : decode cX8_isSent 15 = .ok (.aload_n 0, 1) := by decide +kernel
theorem dX8_isSent_16 : decode cX8_isSent 16 = .ok (.getfield 68, 3) := by decide +kernel
theorem dX8_isSent_19 : decode cX8_isSent 19 = .ok (.iload 4, 2) := by decide +kernel
theorem dX8_isSent_21 : decode cX8_isSent 21 = .ok (.iaload, 1) := by decide +kernel
theorem dX8_isSent_22 : decode cX8_isSent 22 = .ok (.iload_n 1, 1) := by decide +kernel
theorem dX8_isSent_23 : decode cX8_isSent 23 = .ok (.if_icmp .ne 7, 3) := by decide +kernel
theorem dX8_isSent_26 : decode cX8_isSent 26 = .ok (.iconst 1, 1) := by decide +kernel
theorem dX8_isSent_27 : decode cX8_isSent 27 = .ok (.goto 4, 3) := by decide +kernel
theorem dX8_isSent_30 : decode cX8_isSent 30 = .ok (.iconst 0, 1) := by decide +kernel
theorem dX8_isSent_31 : decode cX8_isSent 31 = .ok (.istore_n 3, 1) := by decide +kernel
theorem dX8_isSent_32 : decode cX8_isSent 32 = .ok (.iinc 4 1, 3) := by decide +kernel
theorem dX8_isSent_35 : decode cX8_isSent 35 = .ok (.goto (-30), 3) := by decide +kernel
theorem dX8_isSent_38 : decode cX8_isSent 38 = .ok (.iload_n 3, 1) := by decide +kernel
theorem dX8_isSent_39 : decode cX8_isSent 39 = .ok (.ireturn, 1) := by decide +kernel
set_option maxRecDepth 20000 in
theorem ggX8_findSent_X8_lives : GoodIn wsX8_findSent wsX8_lives := goodIn_r _ [7, 2, 8, 9, 6, 10, 34, 35, 36, 37, 38, 39, 40, 41, 42, 43, 44, 45, 46, 47, 48, 49, 50, 51, 52, 53, 54, 55, 56, 57, 58, 59, 60, 61, 62, 63, 64, 65, 66, 67, 68, 69, 70, 71] (by decide +kernel) (by decide +kernel)
set_option maxRecDepth 20000 in
theorem gX8_findSent_X8_lives : GoodIn wsX8_findSent (wsV RX8 173 RX8 yX8_lives wsX8_lives) := goodIn_app (goodIn_of _ (by decide +kernel)) ggX8_findSent_X8_lives
set_option maxRecDepth 20000 in
theorem ggX8_findSent_X8_isSent : GoodIn wsX8_findSent wsX8_isSent := goodIn_r _ [14, 1, 34, 35, 36, 37, 38, 39, 40, 41, 42, 43, 44, 45, 46, 47, 48, 49, 50, 51, 52, 53, 54, 55, 56, 57, 58, 59, 60, 61, 62, 63, 64, 65, 66, 67, 68, 69, 70, 71] (by decide +kernel) (by decide +kernel)
set_option maxRecDepth 20000 in
theorem gX8_findSent_X8_isSent : GoodIn wsX8_findSent (wsV RX8 238 RX8 yX8_isSent wsX8_isSent) := goodIn_app (goodIn_of _ (by decide +kernel)) ggX8_findSent_X8_isSent
set_option maxRecDepth 20000 in
theorem ggX8_findSent_X8_goesOn : GoodIn wsX8_findSent wsX8_goesOn := goodIn_r _ [18, 19, 20, 21, 22, 6, 23, 24, 25, 26, 8, 9, 10, 27, 28, 29, 30, 31, 32, 33, 34, 35, 36, 37, 38, 39, 40, 41, 42, 43, 44, 45, 46, 47, 48, 49, 50, 51, 52, 53, 54, 55, 56, 57, 58, 59, 60, 61, 62, 63, 64, 65, 66, 67, 68, 69, 70, 71] (by decide +kernel) (by decide +kernel)
set_option maxRecDepth 20000 in
theorem gX8_findSent_X8_goesOn : GoodIn wsX8_findSent (wsV RX8 177 RX8 yX8_goesOn wsX8_goesOn) := goodIn_app (goodIn_of _ (by decide +kernel)) ggX8_findSent_X8_goesOn
theorem dX8_findSent_0 : decode cX8_findSent 0 = .ok (.iconst 0, 1) := by decide +kernel
theorem dX8_findSent_1 : decode cX8_findSent 1 = .ok (.istore_n 2, 1) := by decide +kernel
theorem dX8_findSent_2 : decode cX8_findSent 2 = .ok (.aload_n 0, 1) := by decide +kernel
theorem dX8_findSent_3 : decode cX8_findSent 3 = .ok (.getfield 68, 3) := by decide +kernel
theorem dX8_findSent_6 : decode cX8_findSent 6 = .ok (.iconst 0, 1) := by decide +kernel
theorem dX8_findSent_7 : decode cX8_findSent 7 = .ok (.iconst (-1), 1) := by decide +kernel
theorem dX8_findSent_8 : decode cX8_findSent 8 = .ok (.iastore, 1) := by decide +kernel
theorem dX8_findSent_9 : decode cX8_findSent 9 = .ok (.iload_n 2, 1) := by decide +kernel
theorem dX8_findSent_10 : decode cX8_findSent 10 = .ok (.ifCond .lt 94, 3) := by decide +kernel
theorem dX8_findSent_13 : decode cX8_findSent 13 = .ok (.iload_n 2, 1) := by decide +kernel
theorem dX8_findSent_14 : decode cX8_findSent 14 = .ok (.iload_n 1, 1) := by decide +kernel
theorem dX8_findSent_15 : decode cX8_findSent 15 = .ok (.if_icmp .ge 89, 3) := by decide +kernel
theorem dX8_findSent_18 : decode cX8_findSent 18 = .ok (.aload_n 0, 1) := by decide +kernel
theorem dX8_findSent_19 : decode cX8_findSent 19 = .ok (.getfield 68, 3) := by decide +kernel
theorem dX8_findSent_22 : decode cX8_findSent 22 = .ok (.iload_n 2, 1) := by decide +kernel
theorem dX8_findSent_23 : decode cX8_findSent 23 = .ok (.dup2, 1) := by decide +kernel
theorem dX8_findSent_24 : decode cX8_findSent 24 = .ok (.iaload, 1) := by decide +kernel
theorem dX8_findSent_25 : decode cX8_findSent 25 = .ok (.iconst 1, 1) := by decide +kernel
theorem dX8_findSent_26 : decode cX8_findSent 26 = .ok (.iadd, 1) := by decide +kernel
theorem dX8_findSent_27 : decode cX8_findSent 27 = .ok (.iastore, 1) := by decide +kernel
theorem dX8_findSent_28 : decode cX8_findSent 28 = .ok (.aload_n 0, 1) := by decide +kernel
theorem dX8_findSent_29 : decode cX8_findSent 29 = .ok (.getfield 68, 3) := by decide +kernel
theorem dX8_findSent_32 : decode cX8_findSent 32 = .ok (.iload_n 2, 1) := by decide +kernel
theorem dX8_findSent_33 : decode cX8_findSent 33 = .ok (.iaload, 1) := by decide +kernel
theorem dX8_findSent_34 : decode cX8_findSent 34 = .ok (.istore_n 3, 1) := by decide +kernel
theorem dX8_findSent_35 : decode cX8_findSent 35 = .ok (.iload_n 3, 1) := by decide +kernel
theorem dX8_findSent_36 : decode cX8_findSent 36 = .ok (.aload_n 0, 1) := by decide +kernel
theorem dX8_findSent_37 : decode cX8_findSent 37 = .ok (.getfield 28, 3) := by decide +kernel
theorem dX8_findSent_40 : decode cX8_findSent 40 = .ok (.bipush 8, 2) := by decide +kernel
theorem dX8_findSent_42 : decode cX8_findSent 42 = .ok (.iaload, 1) := by decide +kernel
theorem dX8_findSent_43 : decode cX8_findSent 43 = .ok (.if_icmp .lt 9, 3) := by decide +kernel
theorem dX8_findSent_46 : decode cX8_findSent 46 = .ok (.iinc 2 (-1), 3) := by decide +kernel
theorem dX8_findSent_49 : decode cX8_findSent 49 = .ok (.goto 52, 3) := by decide +kernel
theorem dX8_findSent_52 : decode cX8_findSent 52 = .ok (.aload_n 0, 1) := by decide +kernel
theorem dX8_findSent_53 : decode cX8_findSent 53 = .ok (.iload_n 3, 1) := by decide +kernel
theorem dX8_findSent_54 : decode cX8_findSent 54 = .ok (.invokevirtual 173, 3) := by decide +kernel
theorem dX8_findSent_57 : decode cX8_findSent 57 = .ok (.ifCond .eq 44, 3) := by decide +kernel
theorem dX8_findSent_60 : decode cX8_findSent 60 = .ok (.aload_n 0, 1) := by decide +kernel
theorem dX8_findSent_61 : decode cX8_findSent 61 = .ok (.iload_n 3, 1) := by decide +kernel
theorem dX8_findSent_62 : decode cX8_findSent 62 = .ok (.iload_n 2, 1) := by decide +kernel
theorem dX8_findSent_63 : decode cX8_findSent 63 = .ok (.invokevirtual 238, 3) := by decide +kernel
theorem dX8_findSent_66 : decode cX8_findSent 66 = .ok (.ifCond .ne 35, 3) := by decide +kernel
theorem dX8_findSent_69 : decode cX8_findSent 69 = .ok (.aload_n 0, 1) := by decide +kernel
theorem dX8_findSent_70 : decode cX8_findSent 70 = .ok (.iload_n 3, 1) := by decide +kernel
theorem dX8_findSent_71 : decode cX8_findSent 71 = .ok (.aload_n 0, 1) := by decide +kernel
theorem dX8_findSent_72 : decode cX8_findSent 72 = .ok (.getfield 28, 3) := by decide +kernel
theorem dX8_findSent_75 : decode cX8_findSent 75 = .ok (.bipush 11, 2) := by decide +kernel
theorem dX8_findSent_77 : decode cX8_findSent 77 = .ok (.iaload, 1) := by decide +kernel
theorem dX8_findSent_78 : decode cX8_findSent 78 = .ok (.iload_n 2, 1) := by decide +kernel
theorem dX8_findSent_79 : decode cX8_findSent 79 = .ok (.iadd, 1) := by decide +kernel
theorem dX8_findSent_80 : decode cX8_findSent 80 = .ok (.invokevirtual 177, 3) := by decide +kernel
theorem dX8_findSent_83 : decode cX8_findSent 83 = .ok (.ifCond .eq 18, 3) := by decide +kernel
theorem dX8_findSent_86 : decode cX8_findSent 86 = .ok (.iinc 2 1, 3) := by decide +kernel
theorem dX8_findSent_89 : decode cX8_findSent 89 = .ok (.iload_n 2, 1) := by decide +kernel
theorem dX8_findSent_90 : decode cX8_findSent 90 = .ok (.iload_n 1, 1) := by decide +kernel
theorem dX8_findSent_91 : decode cX8_findSent 91 = .ok (.if_icmp .ge 10, 3) := by decide +kernel
theorem dX8_findSent_94 : decode cX8_findSent 94 = .ok (.aload_n 0, 1) := by decide +kernel
theorem dX8_findSent_95 : decode cX8_findSent 95 = .ok (.getfield 68, 3) := by decide +kernel
theorem dX8_findSent_98 : decode cX8_findSent 98 = .ok (.iload_n 2, 1) := by decide +kernel
theorem dX8_findSent_99 : decode cX8_findSent 99 = .ok (.iconst (-1), 1) := by decide +kernel
theorem dX8_findSent_100 : decode cX8_findSent 100 = .ok (.iastore, 1) := by decide +kernel
theorem dX8_findSent_101 : decode cX8_findSent 101 = .ok (.goto (-92), 3) := by decide +kernel
theorem dX8_findSent_104 : decode cX8_findSent 104 = .ok (.iload_n 2, 1) := by decide +kernel
theorem dX8_findSent_105 : decode cX8_findSent 105 = .ok (.iload_n 1, 1) := by decide +kernel
theorem dX8_findSent_106 : decode cX8_findSent 106 = .ok (.if_icmp .ne 7, 3) := by decide +kernel
theorem dX8_findSent_109 : decode cX8_findSent 109 = .ok (.iconst 1, 1) := by decide +kernel
theorem dX8_findSent_110 : decode cX8_findSent 110 = .ok (.goto 4, 3) := by decide +kernel
theorem dX8_findSent_113 : decode cX8_findSent 113 = .ok (.iconst 0, 1) := by decide +kernel
theorem dX8_findSent_114 : decode cX8_findSent 114 = .ok (.ireturn, 1) := by decide +kernel
set_option maxRecDepth 20000 in
theorem ggX8_send_X8_in : GoodIn wsX8_send wsX8_in := goodIn_r _ [7] (by decide +kernel) (by decide +kernel)
set_option maxRecDepth 20000 in
theorem gX8_send_X8_in : GoodIn wsX8_send (va_wsS RX8 97 yX8_in wsX8_in) := goodIn_app (goodIn_of _ (by decide +kernel)) ggX8_send_X8_in
set_option maxRecDepth 20000 in
theorem ggX8_send_X8_findSent : GoodIn wsX8_send wsX8_findSent := goodIn_r _ [11, 3, 12, 13, 14, 15, 6, 16, 17, 18, 19, 20, 21, 22, 23, 24, 25, 26, 27, 28, 29, 30, 31, 32, 33, 34, 35, 36, 37, 38, 39, 40, 41, 42, 43, 44, 45, 46, 47, 48, 49, 50, 51, 52, 53, 54, 55, 56, 57, 58, 59, 60, 61, 62, 63, 64, 65, 66, 67, 68, 69, 70, 71, 72, 73, 74, 75, 76, 77, 78, 79, 80] (by decide +kernel) (by decide +kernel)
set_option maxRecDepth 20000 in
theorem gX8_send_X8_findSent : GoodIn wsX8_send (wsV RX8 243 RX8 yX8_findSent wsX8_findSent) := goodIn_app (goodIn_of _ (by decide +kernel)) ggX8_send_X8_findSent
theorem dX8_send_0 : decode cX8_send 0 = .ok (.iload_n 1, 1) := by decide +kernel
theorem dX8_send_1 : decode cX8_send 1 = .ok (.i2l, 1) := by decide +kernel
theorem dX8_send_2 : decode cX8_send 2 = .ok (.lconst 1, 1) := by decide +kernel
theorem dX8_send_3 : decode cX8_send 3 = .ok (.ldc2_w 241, 3) := by decide +kernel
theorem dX8_send_6 : decode cX8_send 6 = .ok (.invokestatic 97, 3) := by decide +kernel
theorem dX8_send_9 : decode cX8_send 9 = .ok (.ifCond .ne 6, 3) := by decide +kernel
theorem dX8_send_12 : decode cX8_send 12 = .ok (.ldc 103, 2) := by decide +kernel
theorem dX8_send_14 : decode cX8_send 14 = .ok (.ireturn, 1) := by decide +kernel
theorem dX8_send_15 : decode cX8_send 15 = .ok (.aload_n 0, 1) := by decide +kernel
theorem dX8_send_16 : decode cX8_send 16 = .ok (.iload_n 1, 1) := by decide +kernel
theorem dX8_send_17 : decode cX8_send 17 = .ok (.invokevirtual 243, 3) := by decide +kernel
theorem dX8_send_20 : decode cX8_send 20 = .ok (.ifCond .eq 25, 3) := by decide +kernel
theorem dX8_send_23 : decode cX8_send 23 = .ok (.iload_n 2, 1) := by decide +kernel
theorem dX8_send_24 : decode cX8_send 24 = .ok (.i2l, 1) := by decide +kernel
theorem dX8_send_25 : decode cX8_send 25 = .ok (.lconst 0, 1) := by decide +kernel
theorem dX8_send_26 : decode cX8_send 26 = .ok (.iload_n 1, 1) := by decide +kernel
theorem dX8_send_27 : decode cX8_send 27 = .ok (.iconst 1, 1) := by decide +kernel
theorem dX8_send_28 : decode cX8_send 28 = .ok (.isub, 1) := by decide +kernel
theorem dX8_send_29 : decode cX8_send 29 = .ok (.i2l, 1) := by decide +kernel
theorem dX8_send_30 : decode cX8_send 30 = .ok (.invokestatic 97, 3) := by decide +kernel
theorem dX8_send_33 : decode cX8_send 33 = .ok (.ifCond .eq 12, 3) := by decide +kernel
theorem dX8_send_36 : decode cX8_send 36 = .ok (.aload_n 0, 1) := by decide +kernel
theorem dX8_send_37 : decode cX8_send 37 = .ok (.getfield 68, 3) := by decide +kernel
theorem dX8_send_40 : decode cX8_send 40 = .ok (.iload_n 2, 1) := by decide +kernel
theorem dX8_send_41 : decode cX8_send 41 = .ok (.iaload, 1) := by decide +kernel
theorem dX8_send_42 : decode cX8_send 42 = .ok (.goto 4, 3) := by decide +kernel
theorem dX8_send_45 : decode cX8_send 45 = .ok (.iconst (-1), 1) := by decide +kernel
theorem dX8_send_46 : decode cX8_send 46 = .ok (.ireturn, 1) := by decide +kernel
set_option maxRecDepth 20000 in
theorem ggX8_byMarks_X8_in : GoodIn wsX8_byMarks wsX8_in := goodIn_r _ [7] (by decide +kernel) (by decide +kernel)
set_option maxRecDepth 20000 in
theorem gX8_byMarks_X8_in : GoodIn wsX8_byMarks (va_wsS RX8 97 yX8_in wsX8_in) := goodIn_app (goodIn_of _ (by decide +kernel)) ggX8_byMarks_X8_in
set_option maxRecDepth 20000 in
theorem ggX8_byMarks_X8_lives : GoodIn wsX8_byMarks wsX8_lives := goodIn_r _ [11, 3, 12, 13, 6, 14, 15, 16, 17, 18, 19, 20, 21, 22, 23, 24, 25, 26, 27, 28, 29, 30, 31, 32, 33, 34, 35, 36, 37, 38, 39, 40, 41, 42, 43, 44, 45, 46, 47, 48, 49, 50, 51, 52] (by decide +kernel) (by decide +kernel)
set_option maxRecDepth 20000 in
theorem gX8_byMarks_X8_lives : GoodIn wsX8_byMarks (wsV RX8 173 RX8 yX8_lives wsX8_lives) := goodIn_app (goodIn_of _ (by decide +kernel)) ggX8_byMarks_X8_lives
theorem dX8_byMarks_0 : decode cX8_byMarks 0 = .ok (.iload_n 1, 1) := by decide +kernel
theorem dX8_byMarks_1 : decode cX8_byMarks 1 = .ok (.i2l, 1) := by decide +kernel
theorem dX8_byMarks_2 : decode cX8_byMarks 2 = .ok (.lconst 0, 1) := by decide +kernel
theorem dX8_byMarks_3 : decode cX8_byMarks 3 = .ok (.ldc2_w 101, 3) := by decide +kernel
theorem dX8_byMarks_6 : decode cX8_byMarks 6 = .ok (.invokestatic 97, 3) := by decide +kernel
theorem dX8_byMarks_9 : decode cX8_byMarks 9 = .ok (.ifCond .eq 15, 3) := by decide +kernel
theorem dX8_byMarks_12 : decode cX8_byMarks 12 = .ok (.iload_n 2, 1) := by decide +kernel
theorem dX8_byMarks_13 : decode cX8_byMarks 13 = .ok (.i2l, 1) := by decide +kernel
theorem dX8_byMarks_14 : decode cX8_byMarks 14 = .ok (.lconst 0, 1) := by decide +kernel
theorem dX8_byMarks_15 : decode cX8_byMarks 15 = .ok (.ldc2_w 101, 3) := by decide +kernel
theorem dX8_byMarks_18 : decode cX8_byMarks 18 = .ok (.invokestatic 97, 3) := by decide +kernel
theorem dX8_byMarks_21 : decode cX8_byMarks 21 = .ok (.ifCond .ne 6, 3) := by decide +kernel
theorem dX8_byMarks_24 : decode cX8_byMarks 24 = .ok (.ldc 103, 2) := by decide +kernel
theorem dX8_byMarks_26 : decode cX8_byMarks 26 = .ok (.ireturn, 1) := by decide +kernel
theorem dX8_byMarks_27 : decode cX8_byMarks 27 = .ok (.iconst 0, 1) := by decide +kernel
theorem dX8_byMarks_28 : decode cX8_byMarks 28 = .ok (.istore_n 3, 1) := by decide +kernel
theorem dX8_byMarks_29 : decode cX8_byMarks 29 = .ok (.iconst 0, 1) := by decide +kernel
theorem dX8_byMarks_30 : decode cX8_byMarks 30 = .ok (.istore 4, 2) := by decide +kernel
theorem dX8_byMarks_32 : decode cX8_byMarks 32 = .ok (.iload 4, 2) := by decide +kernel
theorem dX8_byMarks_34 : decode cX8_byMarks 34 = .ok (.aload_n 0, 1) := by decide +kernel
theorem dX8_byMarks_35 : decode cX8_byMarks 35 = .ok (.getfield 28, 3) := by decide +kernel
theorem dX8_byMarks_38 : decode cX8_byMarks 38 = .ok (.bipush 8, 2) := by decide +kernel
theorem dX8_byMarks_40 : decode cX8_byMarks 40 = .ok (.iaload, 1) := by decide +kernel
theorem dX8_byMarks_41 : decode cX8_byMarks 41 = .ok (.if_icmp .ge 55, 3) := by decide +kernel
theorem dX8_byMarks_44 : decode cX8_byMarks 44 = .ok (.iload_n 3, 1) := by decide +kernel
theorem dX8_byMarks_45 : decode cX8_byMarks 45 = .ok (.aload_n 0, 1) := by decide +kernel
theorem dX8_byMarks_46 : decode cX8_byMarks 46 = .ok (.iload 4, 2) := by decide +kernel
theorem dX8_byMarks_48 : decode cX8_byMarks 48 = .ok (.invokevirtual 173, 3) := by decide +kernel
theorem dX8_byMarks_51 : decode cX8_byMarks 51 = .ok (.ifCond .eq 36, 3) := by decide +kernel
theorem dX8_byMarks_54 : decode cX8_byMarks 54 = .ok (.iload_n 1, 1) := by decide +kernel
theorem dX8_byMarks_55 : decode cX8_byMarks 55 = .ok (.aload_n 0, 1) := by decide +kernel
theorem dX8_byMarks_56 : decode cX8_byMarks 56 = .ok (.getfield 28, 3) := by decide +kernel
theorem dX8_byMarks_59 : decode cX8_byMarks 59 = .ok (.iload 4, 2) := by decide +kernel
theorem dX8_byMarks_61 : decode cX8_byMarks 61 = .ok (.iaload, 1) := by decide +kernel
theorem dX8_byMarks_62 : decode cX8_byMarks 62 = .ok (.iconst (-1), 1) := by decide +kernel
theorem dX8_byMarks_63 : decode cX8_byMarks 63 = .ok (.ixor, 1) := by decide +kernel
theorem dX8_byMarks_64 : decode cX8_byMarks 64 = .ok (.iand, 1) := by decide +kernel
theorem dX8_byMarks_65 : decode cX8_byMarks 65 = .ok (.ifCond .ne 22, 3) := by decide +kernel
theorem dX8_byMarks_68 : decode cX8_byMarks 68 = .ok (.iload_n 2, 1) := by decide +kernel
theorem dX8_byMarks_69 : decode cX8_byMarks 69 = .ok (.aload_n 0, 1) := by decide +kernel
theorem dX8_byMarks_70 : decode cX8_byMarks 70 = .ok (.getfield 28, 3) := by decide +kernel
theorem dX8_byMarks_73 : decode cX8_byMarks 73 = .ok (.iload 4, 2) := by decide +kernel
theorem dX8_byMarks_75 : decode cX8_byMarks 75 = .ok (.iaload, 1) := by decide +kernel
theorem dX8_byMarks_76 : decode cX8_byMarks 76 = .ok (.iand, 1) := by decide +kernel
theorem dX8_byMarks_77 : decode cX8_byMarks 77 = .ok (.ifCond .ne 10, 3) := by decide +kernel
theorem dX8_byMarks_80 : decode cX8_byMarks 80 = .ok (.iconst 1, 1) := by decide +kernel
theorem dX8_byMarks_81 : decode cX8_byMarks 81 = .ok (.iload 4, 2) := by decide +kernel
theorem dX8_byMarks_83 : decode cX8_byMarks 83 = .ok (.ishl, 1) := by decide +kernel
theorem dX8_byMarks_84 : decode cX8_byMarks 84 = .ok (.goto 4, 3) := by decide +kernel
theorem dX8_byMarks_87 : decode cX8_byMarks 87 = .ok (.iconst 0, 1) := by decide +kernel
theorem dX8_byMarks_88 : decode cX8_byMarks 88 = .ok (.ior, 1) := by decide +kernel
theorem dX8_byMarks_89 : decode cX8_byMarks 89 = .ok (.istore_n 3, 1) := by decide +kernel
theorem dX8_byMarks_90 : decode cX8_byMarks 90 = .ok (.iinc 4 1, 3) := by decide +kernel
theorem dX8_byMarks_93 : decode cX8_byMarks 93 = .ok (.goto (-61), 3) := by decide +kernel
theorem dX8_byMarks_96 : decode cX8_byMarks 96 = .ok (.iload_n 3, 1) := by decide +kernel
theorem dX8_byMarks_97 : decode cX8_byMarks 97 = .ok (.ireturn, 1) := by decide +kernel
set_option maxRecDepth 20000 in
theorem ggX8_diedAt_X8_isPerson : GoodIn wsX8_diedAt wsX8_isPerson := goodIn_r _ [7, 8, 9, 10, 6, 11, 26, 27, 28, 29, 30, 31, 32, 33, 34, 35, 36, 37, 38, 39, 40, 41, 42, 43, 44, 45, 46, 47, 48, 49, 50, 51, 52, 53, 54, 55, 56, 57, 58, 59, 60, 61, 62, 63] (by decide +kernel) (by decide +kernel)
set_option maxRecDepth 20000 in
theorem gX8_diedAt_X8_isPerson : GoodIn wsX8_diedAt (wsV RX8 187 RX8 yX8_isPerson wsX8_isPerson) := goodIn_app (goodIn_of _ (by decide +kernel)) ggX8_diedAt_X8_isPerson
set_option maxRecDepth 20000 in
theorem ggX8_diedAt_X8_lives : GoodIn wsX8_diedAt wsX8_lives := goodIn_r _ [15, 8, 16, 17, 6, 18, 26, 27, 28, 29, 30, 31, 32, 33, 34, 35, 36, 37, 38, 39, 40, 41, 42, 43, 44, 45, 46, 47, 48, 49, 50, 51, 52, 53, 54, 55, 56, 57, 58, 59, 60, 61, 62, 63] (by decide +kernel) (by decide +kernel)
set_option maxRecDepth 20000 in
theorem gX8_diedAt_X8_lives : GoodIn wsX8_diedAt (wsV RX8 173 RX8 yX8_lives wsX8_lives) := goodIn_app (goodIn_of _ (by decide +kernel)) ggX8_diedAt_X8_lives
set_option maxRecDepth 20000 in
theorem ggX8_diedAt_X8_placeOf : GoodIn wsX8_diedAt wsX8_placeOf := goodIn_r _ [22, 8, 23, 24, 6, 25, 26, 27, 28, 29, 30, 31, 32, 33, 34, 35, 36, 37, 38, 39, 40, 41, 42, 43, 44, 45, 46, 47, 48, 49, 50, 51, 52, 53, 54, 55, 56, 57, 58, 59, 60, 61, 62, 63] (by decide +kernel) (by decide +kernel)
set_option maxRecDepth 20000 in
theorem gX8_diedAt_X8_placeOf : GoodIn wsX8_diedAt (wsV RX8 191 RX8 yX8_placeOf wsX8_placeOf) := goodIn_app (goodIn_of _ (by decide +kernel)) ggX8_diedAt_X8_placeOf
theorem dX8_diedAt_0 : decode cX8_diedAt 0 = .ok (.aload_n 0, 1) := by decide +kernel
theorem dX8_diedAt_1 : decode cX8_diedAt 1 = .ok (.iload_n 1, 1) := by decide +kernel
theorem dX8_diedAt_2 : decode cX8_diedAt 2 = .ok (.invokevirtual 187, 3) := by decide +kernel
theorem dX8_diedAt_5 : decode cX8_diedAt 5 = .ok (.ifCond .ne 6, 3) := by decide +kernel
theorem dX8_diedAt_8 : decode cX8_diedAt 8 = .ok (.ldc 190, 2) := by decide +kernel
theorem dX8_diedAt_10 : decode cX8_diedAt 10 = .ok (.ireturn, 1) := by decide +kernel
theorem dX8_diedAt_11 : decode cX8_diedAt 11 = .ok (.aload_n 0, 1) := by decide +kernel
theorem dX8_diedAt_12 : decode cX8_diedAt 12 = .ok (.iload_n 1, 1) := by decide +kernel
theorem dX8_diedAt_13 : decode cX8_diedAt 13 = .ok (.invokevirtual 173, 3) := by decide +kernel
theorem dX8_diedAt_16 : decode cX8_diedAt 16 = .ok (.ifCond .eq 8, 3) := by decide +kernel
theorem dX8_diedAt_19 : decode cX8_diedAt 19 = .ok (.ldc 203, 2) := by decide +kernel
theorem dX8_diedAt_21 : decode cX8_diedAt 21 = .ok (.goto 8, 3) := by decide +kernel
theorem dX8_diedAt_24 : decode cX8_diedAt 24 = .ok (.aload_n 0, 1) := by decide +kernel
theorem dX8_diedAt_25 : decode cX8_diedAt 25 = .ok (.iload_n 1, 1) := by decide +kernel
theorem dX8_diedAt_26 : decode cX8_diedAt 26 = .ok (.invokevirtual 191, 3) := by decide +kernel
theorem dX8_diedAt_29 : decode cX8_diedAt 29 = .ok (.ireturn, 1) := by decide +kernel
set_option maxRecDepth 20000 in
theorem ggX8_classOf_X8_lives : GoodIn wsX8_classOf wsX8_lives := goodIn_r _ [6, 1, 7, 8, 5, 9, 10, 11, 12, 13, 14, 15, 16, 17, 18, 19, 20, 21, 22, 23, 24, 25, 26, 27, 28, 29, 30, 31, 32, 33, 34, 35, 36, 37, 38, 39, 40, 41, 42, 43, 44, 45, 46, 47] (by decide +kernel) (by decide +kernel)
set_option maxRecDepth 20000 in
theorem gX8_classOf_X8_lives : GoodIn wsX8_classOf (wsV RX8 173 RX8 yX8_lives wsX8_lives) := goodIn_app (goodIn_of _ (by decide +kernel)) ggX8_classOf_X8_lives
theorem dX8_classOf_0 : decode cX8_classOf 0 = .ok (.iconst 0, 1) := by decide +kernel
theorem dX8_classOf_1 : decode cX8_classOf 1 = .ok (.istore_n 2, 1) := by decide +kernel
theorem dX8_classOf_2 : decode cX8_classOf 2 = .ok (.iconst 0, 1) := by decide +kernel
theorem dX8_classOf_3 : decode cX8_classOf 3 = .ok (.istore_n 3, 1) := by decide +kernel
theorem dX8_classOf_4 : decode cX8_classOf 4 = .ok (.iload_n 3, 1) := by decide +kernel
theorem dX8_classOf_5 : decode cX8_classOf 5 = .ok (.aload_n 0, 1) := by decide +kernel
theorem dX8_classOf_6 : decode cX8_classOf 6 = .ok (.getfield 28, 3) := by decide +kernel
theorem dX8_classOf_9 : decode cX8_classOf 9 = .ok (.bipush 8, 2) := by decide +kernel
theorem dX8_classOf_11 : decode cX8_classOf 11 = .ok (.iaload, 1) := by decide +kernel
theorem dX8_classOf_12 : decode cX8_classOf 12 = .ok (.if_icmp .ge 50, 3) := by decide +kernel
theorem dX8_classOf_15 : decode cX8_classOf 15 = .ok (.iload_n 2, 1) := by decide +kernel
theorem dX8_classOf_16 : decode cX8_classOf 16 = .ok (.aload_n 0, 1) := by decide +kernel
theorem dX8_classOf_17 : decode cX8_classOf 17 = .ok (.iload_n 1, 1) := by decide +kernel
theorem dX8_classOf_18 : decode cX8_classOf 18 = .ok (.invokevirtual 173, 3) := by decide +kernel
theorem dX8_classOf_21 : decode cX8_classOf 21 = .ok (.ifCond .eq 32, 3) := by decide +kernel
theorem dX8_classOf_24 : decode cX8_classOf 24 = .ok (.aload_n 0, 1) := by decide +kernel
theorem dX8_classOf_25 : decode cX8_classOf 25 = .ok (.iload_n 3, 1) := by decide +kernel
theorem dX8_classOf_26 : decode cX8_classOf 26 = .ok (.invokevirtual 173, 3) := by decide +kernel
theorem dX8_classOf_29 : decode cX8_classOf 29 = .ok (.ifCond .eq 24, 3) := by decide +kernel
theorem dX8_classOf_32 : decode cX8_classOf 32 = .ok (.aload_n 0, 1) := by decide +kernel
theorem dX8_classOf_33 : decode cX8_classOf 33 = .ok (.getfield 28, 3) := by decide +kernel
theorem dX8_classOf_36 : decode cX8_classOf 36 = .ok (.iload_n 1, 1) := by decide +kernel
theorem dX8_classOf_37 : decode cX8_classOf 37 = .ok (.iaload, 1) := by decide +kernel
theorem dX8_classOf_38 : decode cX8_classOf 38 = .ok (.aload_n 0, 1) := by decide +kernel
theorem dX8_classOf_39 : decode cX8_classOf 39 = .ok (.getfield 28, 3) := by decide +kernel
theorem dX8_classOf_42 : decode cX8_classOf 42 = .ok (.iload_n 3, 1) := by decide +kernel
theorem dX8_classOf_43 : decode cX8_classOf 43 = .ok (.iaload, 1) := by decide +kernel
theorem dX8_classOf_44 : decode cX8_classOf 44 = .ok (.if_icmp .ne 9, 3) := by decide +kernel
theorem dX8_classOf_47 : decode cX8_classOf 47 = .ok (.iconst 1, 1) := by decide +kernel
theorem dX8_classOf_48 : decode cX8_classOf 48 = .ok (.iload_n 3, 1) := by decide +kernel
theorem dX8_classOf_49 : decode cX8_classOf 49 = .ok (.ishl, 1) := by decide +kernel
theorem dX8_classOf_50 : decode cX8_classOf 50 = .ok (.goto 4, 3) := by decide +kernel
theorem dX8_classOf_53 : decode cX8_classOf 53 = .ok (.iconst 0, 1) := by decide +kernel
theorem dX8_classOf_54 : decode cX8_classOf 54 = .ok (.ior, 1) := by decide +kernel
theorem dX8_classOf_55 : decode cX8_classOf 55 = .ok (.istore_n 2, 1) := by decide +kernel
theorem dX8_classOf_56 : decode cX8_classOf 56 = .ok (.iinc 3 1, 3) := by decide +kernel
theorem dX8_classOf_59 : decode cX8_classOf 59 = .ok (.goto (-55), 3) := by decide +kernel
theorem dX8_classOf_62 : decode cX8_classOf 62 = .ok (.iload_n 2, 1) := by decide +kernel
theorem dX8_classOf_63 : decode cX8_classOf 63 = .ok (.ireturn, 1) := by decide +kernel
set_option maxRecDepth 20000 in
theorem ggX8_classes_X8_isPerson : GoodIn wsX8_classes wsX8_isPerson := goodIn_r _ [7, 2, 8, 9, 6, 10, 25, 26, 27, 28, 29, 30, 31, 32, 33, 34, 35, 36, 37, 38, 39, 40, 41, 42, 43, 44, 45, 46, 47, 48, 49, 50, 51, 52, 53, 54, 55, 56, 57, 58, 59, 60, 61, 62] (by decide +kernel) (by decide +kernel)
set_option maxRecDepth 20000 in
theorem gX8_classes_X8_isPerson : GoodIn wsX8_classes (wsV RX8 187 RX8 yX8_isPerson wsX8_isPerson) := goodIn_app (goodIn_of _ (by decide +kernel)) ggX8_classes_X8_isPerson
set_option maxRecDepth 20000 in
theorem ggX8_classes_X8_classOf : GoodIn wsX8_classes wsX8_classOf := goodIn_r _ [14, 2, 15, 16, 17, 6, 18, 19, 20, 21, 25, 26, 27, 28, 29, 30, 31, 32, 33, 34, 35, 36, 37, 38, 39, 40, 41, 42, 43, 44, 45, 46, 47, 48, 49, 50, 51, 52, 53, 54, 55, 56, 57, 58, 59, 60, 61, 62] (by decide +kernel) (by decide +kernel)
set_option maxRecDepth 20000 in
theorem gX8_classes_X8_classOf : GoodIn wsX8_classes (wsV RX8 246 RX8 yX8_classOf wsX8_classOf) := goodIn_app (goodIn_of _ (by decide +kernel)) ggX8_classes_X8_classOf
set_option maxRecDepth 20000 in
theorem ggX8_classes_X8_lives : GoodIn wsX8_classes wsX8_lives := goodIn_r _ [18, 2, 19, 20, 6, 21, 25, 26, 27, 28, 29, 30, 31, 32, 33, 34, 35, 36, 37, 38, 39, 40, 41, 42, 43, 44, 45, 46, 47, 48, 49, 50, 51, 52, 53, 54, 55, 56, 57, 58, 59, 60, 61, 62] (by decide +kernel) (by decide +kernel)
set_option maxRecDepth 20000 in
theorem gX8_classes_X8_lives : GoodIn wsX8_classes (wsV RX8 173 RX8 yX8_lives wsX8_lives) := goodIn_app (goodIn_of _ (by decide +kernel)) ggX8_classes_X8_lives
set_option maxRecDepth 20000 in
theorem ggX8_classes_X8_least : GoodIn wsX8_classes wsX8_least := goodIn_r _ [24, 19, 20, 6, 21] (by decide +kernel) (by decide +kernel)
set_option maxRecDepth 20000 in
theorem gX8_classes_X8_least : GoodIn wsX8_classes (va_wsS RX8 194 yX8_least wsX8_least) := goodIn_app (goodIn_of _ (by decide +kernel)) ggX8_classes_X8_least
theorem dX8_classes_0 : decode cX8_classes 0 = .ok (.iload_n 1, 1) := by decide +kernel
theorem dX8_classes_1 : decode cX8_classes 1 = .ok (.iconst (-1), 1) := by decide +kernel
theorem dX8_classes_2 : decode cX8_classes 2 = .ok (.if_icmp .eq 22, 3) := by decide +kernel
theorem dX8_classes_5 : decode cX8_classes 5 = .ok (.aload_n 0, 1) := by decide +kernel
theorem dX8_classes_6 : decode cX8_classes 6 = .ok (.iload_n 1, 1) := by decide +kernel
theorem dX8_classes_7 : decode cX8_classes 7 = .ok (.invokevirtual 187, 3) := by decide +kernel
theorem dX8_classes_10 : decode cX8_classes 10 = .ok (.ifCond .eq 11, 3) := by decide +kernel
theorem dX8_classes_13 : decode cX8_classes 13 = .ok (.aload_n 0, 1) := by decide +kernel
theorem dX8_classes_14 : decode cX8_classes 14 = .ok (.iload_n 1, 1) := by decide +kernel
theorem dX8_classes_15 : decode cX8_classes 15 = .ok (.invokevirtual 246, 3) := by decide +kernel
theorem dX8_classes_18 : decode cX8_classes 18 = .ok (.goto 5, 3) := by decide +kernel
theorem dX8_classes_21 : decode cX8_classes 21 = .ok (.ldc 190, 2) := by decide +kernel
theorem dX8_classes_23 : decode cX8_classes 23 = .ok (.ireturn, 1) := by decide +kernel
theorem dX8_classes_24 : decode cX8_classes 24 = .ok (.iconst 0, 1) := by decide +kernel
theorem dX8_classes_25 : decode cX8_classes 25 = .ok (.istore_n 2, 1) := by decide +kernel
theorem dX8_classes_26 : decode cX8_classes 26 = .ok (.iconst 0, 1) := by decide +kernel
theorem dX8_classes_27 : decode cX8_classes 27 = .ok (.istore_n 3, 1) := by decide +kernel
theorem dX8_classes_28 : decode cX8_classes 28 = .ok (.iload_n 3, 1) := by decide +kernel
theorem dX8_classes_29 : decode cX8_classes 29 = .ok (.aload_n 0, 1) := by decide +kernel
theorem dX8_classes_30 : decode cX8_classes 30 = .ok (.getfield 28, 3) := by decide +kernel
theorem dX8_classes_33 : decode cX8_classes 33 = .ok (.bipush 8, 2) := by decide +kernel
theorem dX8_classes_35 : decode cX8_classes 35 = .ok (.iaload, 1) := by decide +kernel
theorem dX8_classes_36 : decode cX8_classes 36 = .ok (.if_icmp .ge 37, 3) := by decide +kernel
theorem dX8_classes_39 : decode cX8_classes 39 = .ok (.iload_n 2, 1) := by decide +kernel
theorem dX8_classes_40 : decode cX8_classes 40 = .ok (.aload_n 0, 1) := by decide +kernel
theorem dX8_classes_41 : decode cX8_classes 41 = .ok (.iload_n 3, 1) := by decide +kernel
theorem dX8_classes_42 : decode cX8_classes 42 = .ok (.invokevirtual 173, 3) := by decide +kernel
theorem dX8_classes_45 : decode cX8_classes 45 = .ok (.ifCond .eq 19, 3) := by decide +kernel
theorem dX8_classes_48 : decode cX8_classes 48 = .ok (.aload_n 0, 1) := by decide +kernel
theorem dX8_classes_49 : decode cX8_classes 49 = .ok (.iload_n 3, 1) := by decide +kernel
theorem dX8_classes_50 : decode cX8_classes 50 = .ok (.invokevirtual 246, 3) := by decide +kernel
theorem dX8_classes_53 : decode cX8_classes 53 = .ok (.invokestatic 194, 3) := by decide +kernel
theorem dX8_classes_56 : decode cX8_classes 56 = .ok (.iload_n 3, 1) := by decide +kernel
theorem dX8_classes_57 : decode cX8_classes 57 = .ok (.if_icmp .ne 7, 3) := by decide +kernel
theorem dX8_classes_60 : decode cX8_classes 60 = .ok (.iconst 1, 1) := by decide +kernel
theorem dX8_classes_61 : decode cX8_classes 61 = .ok (.goto 4, 3) := by decide +kernel
theorem dX8_classes_64 : decode cX8_classes 64 = .ok (.iconst 0, 1) := by decide +kernel
theorem dX8_classes_65 : decode cX8_classes 65 = .ok (.iadd, 1) := by decide +kernel
theorem dX8_classes_66 : decode cX8_classes 66 = .ok (.istore_n 2, 1) := by decide +kernel
theorem dX8_classes_67 : decode cX8_classes 67 = .ok (.iinc 3 1, 3) := by decide +kernel
theorem dX8_classes_70 : decode cX8_classes 70 = .ok (.goto (-42), 3) := by decide +kernel
theorem dX8_classes_73 : decode cX8_classes 73 = .ok (.iload_n 2, 1) := by decide +kernel
theorem dX8_classes_74 : decode cX8_classes 74 = .ok (.ireturn, 1) := by decide +kernel
set_option maxRecDepth 20000 in
theorem ggX8_areTold_X8_least : GoodIn wsX8_areTold wsX8_least := goodIn_r _ [5, 6, 7, 4, 8] (by decide +kernel) (by decide +kernel)
set_option maxRecDepth 20000 in
theorem gX8_areTold_X8_least : GoodIn wsX8_areTold (va_wsS RX8 194 yX8_least wsX8_least) := goodIn_app (goodIn_of _ (by decide +kernel)) ggX8_areTold_X8_least
set_option maxRecDepth 20000 in
theorem ggX8_areTold_X8_lives : GoodIn wsX8_areTold wsX8_lives := goodIn_r _ [12, 1, 6, 7, 4, 8, 13, 14, 15, 16, 17, 18, 19, 20, 21, 22, 23, 24, 25, 26, 27, 28, 29, 30, 31, 32, 33, 34, 35, 36, 37, 38, 39, 40, 41, 42, 43, 44, 45, 46, 47, 48, 49, 50] (by decide +kernel) (by decide +kernel)
set_option maxRecDepth 20000 in
theorem gX8_areTold_X8_lives : GoodIn wsX8_areTold (wsV RX8 173 RX8 yX8_lives wsX8_lives) := goodIn_app (goodIn_of _ (by decide +kernel)) ggX8_areTold_X8_lives
theorem dX8_areTold_0 : decode cX8_areTold 0 = .ok (.iconst 1, 1) := by decide +kernel
theorem dX8_areTold_1 : decode cX8_areTold 1 = .ok (.istore_n 3, 1) := by decide +kernel
theorem dX8_areTold_2 : decode cX8_areTold 2 = .ok (.aload_n 0, 1) := by decide +kernel
theorem dX8_areTold_3 : decode cX8_areTold 3 = .ok (.getfield 28, 3) := by decide +kernel
theorem dX8_areTold_6 : decode cX8_areTold 6 = .ok (.bipush 9, 2) := by decide +kernel
theorem dX8_areTold_8 : decode cX8_areTold 8 = .ok (.iaload, 1) := by decide +kernel
theorem dX8_areTold_9 : decode cX8_areTold 9 = .ok (.invokestatic 194, 3) := by decide +kernel
theorem dX8_areTold_12 : decode cX8_areTold 12 = .ok (.istore 4, 2) := by decide +kernel
theorem dX8_areTold_14 : decode cX8_areTold 14 = .ok (.iconst 0, 1) := by decide +kernel
theorem dX8_areTold_15 : decode cX8_areTold 15 = .ok (.istore 5, 2) := by decide +kernel
theorem dX8_areTold_17 : decode cX8_areTold 17 = .ok (.iload 5, 2) := by decide +kernel
theorem dX8_areTold_19 : decode cX8_areTold 19 = .ok (.aload_n 0, 1) := by decide +kernel
theorem dX8_areTold_20 : decode cX8_areTold 20 = .ok (.getfield 28, 3) := by decide +kernel
theorem dX8_areTold_23 : decode cX8_areTold 23 = .ok (.bipush 8, 2) := by decide +kernel
theorem dX8_areTold_25 : decode cX8_areTold 25 = .ok (.iaload, 1) := by decide +kernel
theorem dX8_areTold_26 : decode cX8_areTold 26 = .ok (.if_icmp .ge 97, 3) := by decide +kernel
theorem dX8_areTold_29 : decode cX8_areTold 29 = .ok (.iconst 0, 1) := by decide +kernel
theorem dX8_areTold_30 : decode cX8_areTold 30 = .ok (.istore 6, 2) := by decide +kernel
theorem dX8_areTold_32 : decode cX8_areTold 32 = .ok (.iload 6, 2) := by decide +kernel
theorem dX8_areTold_34 : decode cX8_areTold 34 = .ok (.iload 5, 2) := by decide +kernel
theorem dX8_areTold_36 : decode cX8_areTold 36 = .ok (.if_icmp .ge 81, 3) := by decide +kernel
theorem dX8_areTold_39 : decode cX8_areTold 39 = .ok (.aload_n 0, 1) := by decide +kernel
theorem dX8_areTold_40 : decode cX8_areTold 40 = .ok (.iload 5, 2) := by decide +kernel
theorem dX8_areTold_42 : decode cX8_areTold 42 = .ok (.invokevirtual 173, 3) := by decide +kernel
theorem dX8_areTold_45 : decode cX8_areTold 45 = .ok (.ifCond .eq 27, 3) := by decide +kernel
theorem dX8_areTold_48 : decode cX8_areTold 48 = .ok (.aload_n 0, 1) := by decide +kernel
theorem dX8_areTold_49 : decode cX8_areTold 49 = .ok (.iload 6, 2) := by decide +kernel
theorem dX8_areTold_51 : decode cX8_areTold 51 = .ok (.invokevirtual 173, 3) := by decide +kernel
theorem dX8_areTold_54 : decode cX8_areTold 54 = .ok (.ifCond .eq 18, 3) := by decide +kernel
theorem dX8_areTold_57 : decode cX8_areTold 57 = .ok (.iload_n 2, 1) := by decide +kernel
theorem dX8_areTold_58 : decode cX8_areTold 58 = .ok (.ifCond .ne 10, 3) := by decide +kernel
theorem dX8_areTold_61 : decode cX8_areTold 61 = .ok (.iload 6, 2) := by decide +kernel
theorem dX8_areTold_63 : decode cX8_areTold 63 = .ok (.iload 4, 2) := by decide +kernel
theorem dX8_areTold_65 : decode cX8_areTold 65 = .ok (.if_icmp .ne 7, 3) := by decide +kernel
theorem dX8_areTold_68 : decode cX8_areTold 68 = .ok (.iconst 1, 1) := by decide +kernel
theorem dX8_areTold_69 : decode cX8_areTold 69 = .ok (.goto 4, 3) := by decide +kernel
theorem dX8_areTold_72 : decode cX8_areTold 72 = .ok (.iconst 0, 1) := by decide +kernel
theorem dX8_areTold_73 : decode cX8_areTold 73 = .ok (.istore 7, 2) := by decide +kernel
theorem dX8_areTold_75 : decode cX8_areTold 75 = .ok (.iload_n 3, 1) := by decide +kernel
theorem dX8_areTold_76 : decode cX8_areTold 76 = .ok (.ifCond .eq 33, 3) := by decide +kernel
theorem dX8_areTold_79 : decode cX8_areTold 79 = .ok (.iload 7, 2) := by decide +kernel
theorem dX8_areTold_81 : decode cX8_areTold 81 = .ok (.ifCond .eq 24, 3) := by decide +kernel
theorem dX8_areTold_84 : decode cX8_areTold 84 = .ok (.aload_n 0, 1) := by decide +kernel
theorem dX8_areTold_85 : decode cX8_areTold 85 = .ok (.getfield 28, 3) := by decide +kernel
theorem dX8_areTold_88 : decode cX8_areTold 88 = .ok (.iload 5, 2) := by decide +kernel
theorem dX8_areTold_90 : decode cX8_areTold 90 = .ok (.iaload, 1) := by decide +kernel
theorem dX8_areTold_91 : decode cX8_areTold 91 = .ok (.iload_n 1, 1) := by decide +kernel
theorem dX8_areTold_92 : decode cX8_areTold 92 = .ok (.iand, 1) := by decide +kernel
theorem dX8_areTold_93 : decode cX8_areTold 93 = .ok (.aload_n 0, 1) := by decide +kernel
theorem dX8_areTold_94 : decode cX8_areTold 94 = .ok (.getfield 28, 3) := by decide +kernel
theorem dX8_areTold_97 : decode cX8_areTold 97 = .ok (.iload 6, 2) := by decide +kernel
theorem dX8_areTold_99 : decode cX8_areTold 99 = .ok (.iaload, 1) := by decide +kernel
theorem dX8_areTold_100 : decode cX8_areTold 100 = .ok (.iload_n 1, 1) := by decide +kernel
theorem dX8_areTold_101 : decode cX8_areTold 101 = .ok (.iand, 1) := by decide +kernel
theorem dX8_areTold_102 : decode cX8_areTold 102 = .ok (.if_icmp .eq 7, 3) := by decide +kernel
theorem dX8_areTold_105 : decode cX8_areTold 105 = .ok (.iconst 1, 1) := by decide +kernel
theorem dX8_areTold_106 : decode cX8_areTold 106 = .ok (.goto 4, 3) := by decide +kernel
theorem dX8_areTold_109 : decode cX8_areTold 109 = .ok (.iconst 0, 1) := by decide +kernel
theorem dX8_areTold_110 : decode cX8_areTold 110 = .ok (.istore_n 3, 1) := by decide +kernel
theorem dX8_areTold_111 : decode cX8_areTold 111 = .ok (.iinc 6 1, 3) := by decide +kernel
theorem dX8_areTold_114 : decode cX8_areTold 114 = .ok (.goto (-82), 3) := by decide +kernel
theorem dX8_areTold_117 : decode cX8_areTold 117 = .ok (.iinc 5 1, 3) := by decide +kernel
theorem dX8_areTold_120 : decode cX8_areTold 120 = .ok (.goto (-103), 3) := by decide +kernel
theorem dX8_areTold_123 : decode cX8_areTold 123 = .ok (.iload_n 3, 1) := by decide +kernel
theorem dX8_areTold_124 : decode cX8_areTold 124 = .ok (.ireturn, 1) := by decide +kernel
set_option maxRecDepth 20000 in
theorem ggX8_tell_X8_bits : GoodIn wsX8_tell wsX8_bits := goodIn_r _ [5] (by decide +kernel) (by decide +kernel)
set_option maxRecDepth 20000 in
theorem gX8_tell_X8_bits : GoodIn wsX8_tell (va_wsS RX8 180 yX8_bits wsX8_bits) := goodIn_app (goodIn_of _ (by decide +kernel)) ggX8_tell_X8_bits
set_option maxRecDepth 20000 in
theorem ggX8_tell_X8_areTold : GoodIn wsX8_tell wsX8_areTold := goodIn_r _ [9, 1, 10, 11, 4, 12, 13, 14, 15, 16, 17, 18, 19, 20, 21, 22, 23, 24, 25, 26, 27, 28, 29, 30, 31, 32, 33, 34, 35, 36, 37, 38, 39, 40, 41, 42, 43, 44, 45, 46, 47, 48, 49, 50, 51, 52, 53, 54, 55, 56, 57] (by decide +kernel) (by decide +kernel)
set_option maxRecDepth 20000 in
theorem gX8_tell_X8_areTold : GoodIn wsX8_tell (wsV RX8 249 RX8 yX8_areTold wsX8_areTold) := goodIn_app (goodIn_of _ (by decide +kernel)) ggX8_tell_X8_areTold
theorem dX8_tell_0 : decode cX8_tell 0 = .ok (.aload_n 0, 1) := by decide +kernel
theorem dX8_tell_1 : decode cX8_tell 1 = .ok (.getfield 28, 3) := by decide +kernel
theorem dX8_tell_4 : decode cX8_tell 4 = .ok (.bipush 9, 2) := by decide +kernel
theorem dX8_tell_6 : decode cX8_tell 6 = .ok (.iaload, 1) := by decide +kernel
theorem dX8_tell_7 : decode cX8_tell 7 = .ok (.ifCond .ne 5, 3) := by decide +kernel
theorem dX8_tell_10 : decode cX8_tell 10 = .ok (.iconst (-1), 1) := by decide +kernel
theorem dX8_tell_11 : decode cX8_tell 11 = .ok (.ireturn, 1) := by decide +kernel
theorem dX8_tell_12 : decode cX8_tell 12 = .ok (.iconst (-1), 1) := by decide +kernel
theorem dX8_tell_13 : decode cX8_tell 13 = .ok (.istore_n 2, 1) := by decide +kernel
theorem dX8_tell_14 : decode cX8_tell 14 = .ok (.iconst 0, 1) := by decide +kernel
theorem dX8_tell_15 : decode cX8_tell 15 = .ok (.istore_n 3, 1) := by decide +kernel
theorem dX8_tell_16 : decode cX8_tell 16 = .ok (.iload_n 3, 1) := by decide +kernel
theorem dX8_tell_17 : decode cX8_tell 17 = .ok (.sipush 255, 3) := by decide +kernel
theorem dX8_tell_20 : decode cX8_tell 20 = .ok (.if_icmp .gt 51, 3) := by decide +kernel
theorem dX8_tell_23 : decode cX8_tell 23 = .ok (.iload_n 2, 1) := by decide +kernel
theorem dX8_tell_24 : decode cX8_tell 24 = .ok (.ifCond .lt 14, 3) := by decide +kernel
theorem dX8_tell_27 : decode cX8_tell 27 = .ok (.iload_n 3, 1) := by decide +kernel
theorem dX8_tell_28 : decode cX8_tell 28 = .ok (.invokestatic 180, 3) := by decide +kernel
theorem dX8_tell_31 : decode cX8_tell 31 = .ok (.iload_n 2, 1) := by decide +kernel
theorem dX8_tell_32 : decode cX8_tell 32 = .ok (.invokestatic 180, 3) := by decide +kernel
theorem dX8_tell_35 : decode cX8_tell 35 = .ok (.if_icmp .ge 7, 3) := by decide +kernel
theorem dX8_tell_38 : decode cX8_tell 38 = .ok (.iconst 1, 1) := by decide +kernel
theorem dX8_tell_39 : decode cX8_tell 39 = .ok (.goto 4, 3) := by decide +kernel
theorem dX8_tell_42 : decode cX8_tell 42 = .ok (.iconst 0, 1) := by decide +kernel
theorem dX8_tell_43 : decode cX8_tell 43 = .ok (.istore 4, 2) := by decide +kernel
theorem dX8_tell_45 : decode cX8_tell 45 = .ok (.iload 4, 2) := by decide +kernel
theorem dX8_tell_47 : decode cX8_tell 47 = .ok (.ifCond .eq 16, 3) := by decide +kernel
theorem dX8_tell_50 : decode cX8_tell 50 = .ok (.aload_n 0, 1) := by decide +kernel
theorem dX8_tell_51 : decode cX8_tell 51 = .ok (.iload_n 3, 1) := by decide +kernel
theorem dX8_tell_52 : decode cX8_tell 52 = .ok (.iload_n 1, 1) := by decide +kernel
theorem dX8_tell_53 : decode cX8_tell 53 = .ok (.invokevirtual 249, 3) := by decide +kernel
theorem dX8_tell_56 : decode cX8_tell 56 = .ok (.ifCond .eq 7, 3) := by decide +kernel
theorem dX8_tell_59 : decode cX8_tell 59 = .ok (.iload_n 3, 1) := by decide +kernel
theorem dX8_tell_60 : decode cX8_tell 60 = .ok (.goto 4, 3) := by decide +kernel
theorem dX8_tell_63 : decode cX8_tell 63 = .ok (.iload_n 2, 1) := by decide +kernel
theorem dX8_tell_64 : decode cX8_tell 64 = .ok (.istore_n 2, 1) := by decide +kernel
theorem dX8_tell_65 : decode cX8_tell 65 = .ok (.iinc 3 1, 3) := by decide +kernel
theorem dX8_tell_68 : decode cX8_tell 68 = .ok (.goto (-52), 3) := by decide +kernel
theorem dX8_tell_71 : decode cX8_tell 71 = .ok (.iload_n 2, 1) := by decide +kernel
theorem dX8_tell_72 : decode cX8_tell 72 = .ok (.ireturn, 1) := by decide +kernel
set_option maxRecDepth 20000 in
theorem ggX8_reign_X8_lives : GoodIn wsX8_reign wsX8_lives := goodIn_r _ [7, 2, 8, 9, 6, 10, 32, 33, 34, 35, 36, 37, 38, 39, 40, 41, 42, 43, 44, 45, 46, 47, 48, 49, 50, 51, 52, 53, 54, 55, 56, 57, 58, 59, 60, 61, 62, 63, 64, 65, 66, 67, 68, 69] (by decide +kernel) (by decide +kernel)
set_option maxRecDepth 20000 in
theorem gX8_reign_X8_lives : GoodIn wsX8_reign (wsV RX8 173 RX8 yX8_lives wsX8_lives) := goodIn_app (goodIn_of _ (by decide +kernel)) ggX8_reign_X8_lives
set_option maxRecDepth 20000 in
theorem ggX8_reign_X8_goesAt : GoodIn wsX8_reign wsX8_goesAt := goodIn_r _ [14, 15, 16, 17, 18, 19, 20, 6, 21, 22, 23, 24, 8, 9, 10, 32, 33, 34, 35, 36, 37, 38, 39, 40, 41, 42, 43, 44, 45, 46, 47, 48, 49, 50, 51, 52, 53, 54, 55, 56, 57, 58, 59, 60, 61, 62, 63, 64, 65, 66, 67, 68, 69] (by decide +kernel) (by decide +kernel)
set_option maxRecDepth 20000 in
theorem gX8_reign_X8_goesAt : GoodIn wsX8_reign (wsV RX8 170 RX8 yX8_goesAt wsX8_goesAt) := goodIn_app (goodIn_of _ (by decide +kernel)) ggX8_reign_X8_goesAt
set_option maxRecDepth 20000 in
theorem ggX8_reign_X8_placeOf : GoodIn wsX8_reign wsX8_placeOf := goodIn_r _ [28, 2, 29, 30, 6, 31, 32, 33, 34, 35, 36, 37, 38, 39, 40, 41, 42, 43, 44, 45, 46, 47, 48, 49, 50, 51, 52, 53, 54, 55, 56, 57, 58, 59, 60, 61, 62, 63, 64, 65, 66, 67, 68, 69] (by decide +kernel) (by decide +kernel)
set_option maxRecDepth 20000 in
theorem gX8_reign_X8_placeOf : GoodIn wsX8_reign (wsV RX8 191 RX8 yX8_placeOf wsX8_placeOf) := goodIn_app (goodIn_of _ (by decide +kernel)) ggX8_reign_X8_placeOf
theorem dX8_reign_0 : decode cX8_reign 0 = .ok (.iconst 0, 1) := by decide +kernel
theorem dX8_reign_1 : decode cX8_reign 1 = .ok (.istore_n 1, 1) := by decide +kernel
theorem dX8_reign_2 : decode cX8_reign 2 = .ok (.iconst 0, 1) := by decide +kernel
theorem dX8_reign_3 : decode cX8_reign 3 = .ok (.istore_n 2, 1) := by decide +kernel
theorem dX8_reign_4 : decode cX8_reign 4 = .ok (.iload_n 2, 1) := by decide +kernel
theorem dX8_reign_5 : decode cX8_reign 5 = .ok (.aload_n 0, 1) := by decide +kernel
theorem dX8_reign_6 : decode cX8_reign 6 = .ok (.getfield 148, 3) := by decide +kernel
theorem dX8_reign_9 : decode cX8_reign 9 = .ok (.if_icmp .ge 84, 3) := by decide +kernel
theorem dX8_reign_12 : decode cX8_reign 12 = .ok (.iconst (-1), 1) := by decide +kernel
theorem dX8_reign_13 : decode cX8_reign 13 = .ok (.istore_n 3, 1) := by decide +kernel
theorem dX8_reign_14 : decode cX8_reign 14 = .ok (.aload_n 0, 1) := by decide +kernel
theorem dX8_reign_15 : decode cX8_reign 15 = .ok (.getfield 28, 3) := by decide +kernel
theorem dX8_reign_18 : decode cX8_reign 18 = .ok (.bipush 8, 2) := by decide +kernel
theorem dX8_reign_20 : decode cX8_reign 20 = .ok (.iaload, 1) := by decide +kernel
theorem dX8_reign_21 : decode cX8_reign 21 = .ok (.iconst 1, 1) := by decide +kernel
theorem dX8_reign_22 : decode cX8_reign 22 = .ok (.isub, 1) := by decide +kernel
theorem dX8_reign_23 : decode cX8_reign 23 = .ok (.istore 4, 2) := by decide +kernel
theorem dX8_reign_25 : decode cX8_reign 25 = .ok (.iload 4, 2) := by decide +kernel
theorem dX8_reign_27 : decode cX8_reign 27 = .ok (.ifCond .lt 39, 3) := by decide +kernel
theorem dX8_reign_30 : decode cX8_reign 30 = .ok (.aload_n 0, 1) := by decide +kernel
theorem dX8_reign_31 : decode cX8_reign 31 = .ok (.iload 4, 2) := by decide +kernel
theorem dX8_reign_33 : decode cX8_reign 33 = .ok (.invokevirtual 173, 3) := by decide +kernel
theorem dX8_reign_36 : decode cX8_reign 36 = .ok (.ifCond .eq 22, 3) := by decide +kernel
theorem dX8_reign_39 : decode cX8_reign 39 = .ok (.aload_n 0, 1) := by decide +kernel
theorem dX8_reign_40 : decode cX8_reign 40 = .ok (.iload 4, 2) := by decide +kernel
theorem dX8_reign_42 : decode cX8_reign 42 = .ok (.iload_n 2, 1) := by decide +kernel
theorem dX8_reign_43 : decode cX8_reign 43 = .ok (.invokevirtual 170, 3) := by decide +kernel
theorem dX8_reign_46 : decode cX8_reign 46 = .ok (.ifCond .eq 12, 3) := by decide +kernel
theorem dX8_reign_49 : decode cX8_reign 49 = .ok (.aload_n 0, 1) := by decide +kernel
theorem dX8_reign_50 : decode cX8_reign 50 = .ok (.iload 4, 2) := by decide +kernel
theorem dX8_reign_52 : decode cX8_reign 52 = .ok (.invokevirtual 191, 3) := by decide +kernel
theorem dX8_reign_55 : decode cX8_reign 55 = .ok (.goto 4, 3) := by decide +kernel
theorem dX8_reign_58 : decode cX8_reign 58 = .ok (.iload_n 3, 1) := by decide +kernel
theorem dX8_reign_59 : decode cX8_reign 59 = .ok (.istore_n 3, 1) := by decide +kernel
theorem dX8_reign_60 : decode cX8_reign 60 = .ok (.iinc 4 (-1), 3) := by decide +kernel
theorem dX8_reign_63 : decode cX8_reign 63 = .ok (.goto (-38), 3) := by decide +kernel
theorem dX8_reign_66 : decode cX8_reign 66 = .ok (.iload_n 3, 1) := by decide +kernel
theorem dX8_reign_67 : decode cX8_reign 67 = .ok (.ifCond .ge 5, 3) := by decide +kernel
theorem dX8_reign_70 : decode cX8_reign 70 = .ok (.iconst (-1), 1) := by decide +kernel
theorem dX8_reign_71 : decode cX8_reign 71 = .ok (.ireturn, 1) := by decide +kernel
theorem dX8_reign_72 : decode cX8_reign 72 = .ok (.iload_n 3, 1) := by decide +kernel
theorem dX8_reign_73 : decode cX8_reign 73 = .ok (.iconst 1, 1) := by decide +kernel
theorem dX8_reign_74 : decode cX8_reign 74 = .ok (.iadd, 1) := by decide +kernel
theorem dX8_reign_75 : decode cX8_reign 75 = .ok (.iload_n 1, 1) := by decide +kernel
theorem dX8_reign_76 : decode cX8_reign 76 = .ok (.if_icmp .le 9, 3) := by decide +kernel
theorem dX8_reign_79 : decode cX8_reign 79 = .ok (.iload_n 3, 1) := by decide +kernel
theorem dX8_reign_80 : decode cX8_reign 80 = .ok (.iconst 1, 1) := by decide +kernel
theorem dX8_reign_81 : decode cX8_reign 81 = .ok (.iadd, 1) := by decide +kernel
theorem dX8_reign_82 : decode cX8_reign 82 = .ok (.goto 4, 3) := by decide +kernel
theorem dX8_reign_85 : decode cX8_reign 85 = .ok (.iload_n 1, 1) := by decide +kernel
theorem dX8_reign_86 : decode cX8_reign 86 = .ok (.istore_n 1, 1) := by decide +kernel
theorem dX8_reign_87 : decode cX8_reign 87 = .ok (.iinc 2 1, 3) := by decide +kernel
theorem dX8_reign_90 : decode cX8_reign 90 = .ok (.goto (-86), 3) := by decide +kernel
theorem dX8_reign_93 : decode cX8_reign 93 = .ok (.iload_n 1, 1) := by decide +kernel
theorem dX8_reign_94 : decode cX8_reign 94 = .ok (.ireturn, 1) := by decide +kernel
set_option maxRecDepth 20000 in
theorem ggX8_shownAll_X8_seenOn : GoodIn wsX8_shownAll wsX8_seenOn := goodIn_r _ [8, 3, 9, 10, 11, 7, 12, 13, 14, 15, 16, 17, 18, 19, 20, 21, 22, 23, 24, 25, 26, 27, 28, 29, 30, 31, 32, 33, 34, 35, 36, 37, 38, 39, 40, 41, 42, 43, 44, 45, 46, 47, 48, 49, 50, 51, 52, 53, 54, 55, 56, 57, 58, 59, 60, 61, 62, 63, 64, 65, 66, 67, 68, 69, 70, 71, 72] (by decide +kernel) (by decide +kernel)
set_option maxRecDepth 20000 in
theorem gX8_shownAll_X8_seenOn : GoodIn wsX8_shownAll (wsV RX8 184 RX8 yX8_seenOn wsX8_seenOn) := goodIn_app (goodIn_of _ (by decide +kernel)) ggX8_shownAll_X8_seenOn
theorem dX8_shownAll_0 : decode cX8_shownAll 0 = .ok (.aload_n 0, 1) := by decide +kernel
theorem dX8_shownAll_1 : decode cX8_shownAll 1 = .ok (.getfield 90, 3) := by decide +kernel
theorem dX8_shownAll_4 : decode cX8_shownAll 4 = .ok (.ifCond .ne 6, 3) := by decide +kernel
theorem dX8_shownAll_7 : decode cX8_shownAll 7 = .ok (.ldc 203, 2) := by decide +kernel
theorem dX8_shownAll_9 : decode cX8_shownAll 9 = .ok (.ireturn, 1) := by decide +kernel
theorem dX8_shownAll_10 : decode cX8_shownAll 10 = .ok (.aload_n 0, 1) := by decide +kernel
theorem dX8_shownAll_11 : decode cX8_shownAll 11 = .ok (.getfield 28, 3) := by decide +kernel
theorem dX8_shownAll_14 : decode cX8_shownAll 14 = .ok (.bipush 10, 2) := by decide +kernel
theorem dX8_shownAll_16 : decode cX8_shownAll 16 = .ok (.iaload, 1) := by decide +kernel
theorem dX8_shownAll_17 : decode cX8_shownAll 17 = .ok (.istore_n 1, 1) := by decide +kernel
theorem dX8_shownAll_18 : decode cX8_shownAll 18 = .ok (.iconst 0, 1) := by decide +kernel
theorem dX8_shownAll_19 : decode cX8_shownAll 19 = .ok (.istore_n 2, 1) := by decide +kernel
theorem dX8_shownAll_20 : decode cX8_shownAll 20 = .ok (.iload_n 2, 1) := by decide +kernel
theorem dX8_shownAll_21 : decode cX8_shownAll 21 = .ok (.bipush 99, 2) := by decide +kernel
theorem dX8_shownAll_23 : decode cX8_shownAll 23 = .ok (.if_icmp .gt 53, 3) := by decide +kernel
theorem dX8_shownAll_26 : decode cX8_shownAll 26 = .ok (.aload_n 0, 1) := by decide +kernel
theorem dX8_shownAll_27 : decode cX8_shownAll 27 = .ok (.getfield 28, 3) := by decide +kernel
theorem dX8_shownAll_30 : decode cX8_shownAll 30 = .ok (.bipush 9, 2) := by decide +kernel
theorem dX8_shownAll_32 : decode cX8_shownAll 32 = .ok (.iaload, 1) := by decide +kernel
theorem dX8_shownAll_33 : decode cX8_shownAll 33 = .ok (.iload_n 1, 1) := by decide +kernel
theorem dX8_shownAll_34 : decode cX8_shownAll 34 = .ok (.iconst (-1), 1) := by decide +kernel
theorem dX8_shownAll_35 : decode cX8_shownAll 35 = .ok (.ixor, 1) := by decide +kernel
theorem dX8_shownAll_36 : decode cX8_shownAll 36 = .ok (.iand, 1) := by decide +kernel
theorem dX8_shownAll_37 : decode cX8_shownAll 37 = .ok (.ifCond .ne 5, 3) := by decide +kernel
theorem dX8_shownAll_40 : decode cX8_shownAll 40 = .ok (.iload_n 2, 1) := by decide +kernel
theorem dX8_shownAll_41 : decode cX8_shownAll 41 = .ok (.ireturn, 1) := by decide +kernel
theorem dX8_shownAll_42 : decode cX8_shownAll 42 = .ok (.aload_n 0, 1) := by decide +kernel
theorem dX8_shownAll_43 : decode cX8_shownAll 43 = .ok (.aload_n 0, 1) := by decide +kernel
theorem dX8_shownAll_44 : decode cX8_shownAll 44 = .ok (.getfield 28, 3) := by decide +kernel
theorem dX8_shownAll_47 : decode cX8_shownAll 47 = .ok (.bipush 11, 2) := by decide +kernel
theorem dX8_shownAll_49 : decode cX8_shownAll 49 = .ok (.iaload, 1) := by decide +kernel
theorem dX8_shownAll_50 : decode cX8_shownAll 50 = .ok (.iload_n 2, 1) := by decide +kernel
theorem dX8_shownAll_51 : decode cX8_shownAll 51 = .ok (.iadd, 1) := by decide +kernel
theorem dX8_shownAll_52 : decode cX8_shownAll 52 = .ok (.invokevirtual 184, 3) := by decide +kernel
theorem dX8_shownAll_55 : decode cX8_shownAll 55 = .ok (.istore_n 3, 1) := by decide +kernel
theorem dX8_shownAll_56 : decode cX8_shownAll 56 = .ok (.iload_n 1, 1) := by decide +kernel
theorem dX8_shownAll_57 : decode cX8_shownAll 57 = .ok (.iload_n 3, 1) := by decide +kernel
theorem dX8_shownAll_58 : decode cX8_shownAll 58 = .ok (.ifCond .lt 9, 3) := by decide +kernel
theorem dX8_shownAll_61 : decode cX8_shownAll 61 = .ok (.iconst 1, 1) := by decide +kernel
theorem dX8_shownAll_62 : decode cX8_shownAll 62 = .ok (.iload_n 3, 1) := by decide +kernel
theorem dX8_shownAll_63 : decode cX8_shownAll 63 = .ok (.ishl, 1) := by decide +kernel
theorem dX8_shownAll_64 : decode cX8_shownAll 64 = .ok (.goto 4, 3) := by decide +kernel
theorem dX8_shownAll_67 : decode cX8_shownAll 67 = .ok (.iconst 0, 1) := by decide +kernel
theorem dX8_shownAll_68 : decode cX8_shownAll 68 = .ok (.ior, 1) := by decide +kernel
theorem dX8_shownAll_69 : decode cX8_shownAll 69 = .ok (.istore_n 1, 1) := by decide +kernel
theorem dX8_shownAll_70 : decode cX8_shownAll 70 = .ok (.iinc 2 1, 3) := by decide +kernel
theorem dX8_shownAll_73 : decode cX8_shownAll 73 = .ok (.goto (-53), 3) := by decide +kernel
theorem dX8_shownAll_76 : decode cX8_shownAll 76 = .ok (.iconst (-1), 1) := by decide +kernel
theorem dX8_shownAll_77 : decode cX8_shownAll 77 = .ok (.ireturn, 1) := by decide +kernel
set_option maxRecDepth 20000 in
theorem ggX8_apart_X8_isPerson : GoodIn wsX8_apart wsX8_isPerson := goodIn_r _ [7, 1, 8, 9, 6, 10, 14, 15, 16, 17, 18, 19, 20, 21, 22, 23, 24, 25, 26, 27, 28, 29, 30, 31, 32, 33, 34, 35, 36, 37, 38, 39, 40, 41, 42, 43, 44, 45, 46, 47, 48, 49, 50, 51] (by decide +kernel) (by decide +kernel)
set_option maxRecDepth 20000 in
theorem gX8_apart_X8_isPerson : GoodIn wsX8_apart (wsV RX8 187 RX8 yX8_isPerson wsX8_isPerson) := goodIn_app (goodIn_of _ (by decide +kernel)) ggX8_apart_X8_isPerson
set_option maxRecDepth 20000 in
theorem ggX8_apart_X8_bits : GoodIn wsX8_apart wsX8_bits := goodIn_r _ [13] (by decide +kernel) (by decide +kernel)
set_option maxRecDepth 20000 in
theorem gX8_apart_X8_bits : GoodIn wsX8_apart (va_wsS RX8 180 yX8_bits wsX8_bits) := goodIn_app (goodIn_of _ (by decide +kernel)) ggX8_apart_X8_bits
theorem dX8_apart_0 : decode cX8_apart 0 = .ok (.aload_n 0, 1) := by decide +kernel
theorem dX8_apart_1 : decode cX8_apart 1 = .ok (.iload_n 1, 1) := by decide +kernel
theorem dX8_apart_2 : decode cX8_apart 2 = .ok (.invokevirtual 187, 3) := by decide +kernel
theorem dX8_apart_5 : decode cX8_apart 5 = .ok (.ifCond .eq 35, 3) := by decide +kernel
theorem dX8_apart_8 : decode cX8_apart 8 = .ok (.aload_n 0, 1) := by decide +kernel
theorem dX8_apart_9 : decode cX8_apart 9 = .ok (.iload_n 2, 1) := by decide +kernel
theorem dX8_apart_10 : decode cX8_apart 10 = .ok (.invokevirtual 187, 3) := by decide +kernel
theorem dX8_apart_13 : decode cX8_apart 13 = .ok (.ifCond .eq 27, 3) := by decide +kernel
theorem dX8_apart_16 : decode cX8_apart 16 = .ok (.iload_n 1, 1) := by decide +kernel
theorem dX8_apart_17 : decode cX8_apart 17 = .ok (.iload_n 2, 1) := by decide +kernel
theorem dX8_apart_18 : decode cX8_apart 18 = .ok (.if_icmp .eq 22, 3) := by decide +kernel
theorem dX8_apart_21 : decode cX8_apart 21 = .ok (.aload_n 0, 1) := by decide +kernel
theorem dX8_apart_22 : decode cX8_apart 22 = .ok (.getfield 28, 3) := by decide +kernel
theorem dX8_apart_25 : decode cX8_apart 25 = .ok (.iload_n 1, 1) := by decide +kernel
theorem dX8_apart_26 : decode cX8_apart 26 = .ok (.iaload, 1) := by decide +kernel
theorem dX8_apart_27 : decode cX8_apart 27 = .ok (.aload_n 0, 1) := by decide +kernel
theorem dX8_apart_28 : decode cX8_apart 28 = .ok (.getfield 28, 3) := by decide +kernel
theorem dX8_apart_31 : decode cX8_apart 31 = .ok (.iload_n 2, 1) := by decide +kernel
theorem dX8_apart_32 : decode cX8_apart 32 = .ok (.iaload, 1) := by decide +kernel
theorem dX8_apart_33 : decode cX8_apart 33 = .ok (.ixor, 1) := by decide +kernel
theorem dX8_apart_34 : decode cX8_apart 34 = .ok (.invokestatic 180, 3) := by decide +kernel
theorem dX8_apart_37 : decode cX8_apart 37 = .ok (.goto 5, 3) := by decide +kernel
theorem dX8_apart_40 : decode cX8_apart 40 = .ok (.ldc 190, 2) := by decide +kernel
theorem dX8_apart_42 : decode cX8_apart 42 = .ok (.ireturn, 1) := by decide +kernel
set_option maxRecDepth 20000 in
theorem ggX8_safe_X8_in : GoodIn wsX8_safe wsX8_in := goodIn_r _ [9] (by decide +kernel) (by decide +kernel)
set_option maxRecDepth 20000 in
theorem gX8_safe_X8_in : GoodIn wsX8_safe (va_wsS RX8 97 yX8_in wsX8_in) := goodIn_app (goodIn_of _ (by decide +kernel)) ggX8_safe_X8_in
set_option maxRecDepth 20000 in
theorem ggX8_safe_X8_dangerOn : GoodIn wsX8_safe wsX8_dangerOn := goodIn_r _ [13, 14, 15, 16, 17, 18, 19, 20, 21, 22, 23, 24, 25, 26, 27, 28, 29, 30, 31, 32, 33, 34, 35, 36, 37, 38, 39, 40, 41, 42, 43, 44, 45, 46, 47, 48, 49, 50, 51, 52, 53] (by decide +kernel) (by decide +kernel)
set_option maxRecDepth 20000 in
theorem gX8_safe_X8_dangerOn : GoodIn wsX8_safe (wsV RX8 229 RX8 yX8_dangerOn wsX8_dangerOn) := goodIn_app (goodIn_of _ (by decide +kernel)) ggX8_safe_X8_dangerOn
theorem dX8_safe_0 : decode cX8_safe 0 = .ok (.iload_n 1, 1) := by decide +kernel
theorem dX8_safe_1 : decode cX8_safe 1 = .ok (.i2l, 1) := by decide +kernel
theorem dX8_safe_2 : decode cX8_safe 2 = .ok (.lconst 0, 1) := by decide +kernel
theorem dX8_safe_3 : decode cX8_safe 3 = .ok (.ldc2_w 201, 3) := by decide +kernel
theorem dX8_safe_6 : decode cX8_safe 6 = .ok (.invokestatic 97, 3) := by decide +kernel
theorem dX8_safe_9 : decode cX8_safe 9 = .ok (.ifCond .eq 15, 3) := by decide +kernel
theorem dX8_safe_12 : decode cX8_safe 12 = .ok (.iload_n 2, 1) := by decide +kernel
theorem dX8_safe_13 : decode cX8_safe 13 = .ok (.i2l, 1) := by decide +kernel
theorem dX8_safe_14 : decode cX8_safe 14 = .ok (.lconst 0, 1) := by decide +kernel
theorem dX8_safe_15 : decode cX8_safe 15 = .ok (.ldc2_w 253, 3) := by decide +kernel
theorem dX8_safe_18 : decode cX8_safe 18 = .ok (.invokestatic 97, 3) := by decide +kernel
theorem dX8_safe_21 : decode cX8_safe 21 = .ok (.ifCond .ne 6, 3) := by decide +kernel
theorem dX8_safe_24 : decode cX8_safe 24 = .ok (.ldc 103, 2) := by decide +kernel
theorem dX8_safe_26 : decode cX8_safe 26 = .ok (.ireturn, 1) := by decide +kernel
theorem dX8_safe_27 : decode cX8_safe 27 = .ok (.ldc2_w 255, 3) := by decide +kernel
theorem dX8_safe_30 : decode cX8_safe 30 = .ok (.lstore_n 3, 1) := by decide +kernel
theorem dX8_safe_31 : decode cX8_safe 31 = .ok (.iconst 0, 1) := by decide +kernel
theorem dX8_safe_32 : decode cX8_safe 32 = .ok (.istore 5, 2) := by decide +kernel
theorem dX8_safe_34 : decode cX8_safe 34 = .ok (.iload 5, 2) := by decide +kernel
theorem dX8_safe_36 : decode cX8_safe 36 = .ok (.iload_n 1, 1) := by decide +kernel
theorem dX8_safe_37 : decode cX8_safe 37 = .ok (.if_icmp .ge 66, 3) := by decide +kernel
theorem dX8_safe_40 : decode cX8_safe 40 = .ok (.iload_n 2, 1) := by decide +kernel
theorem dX8_safe_41 : decode cX8_safe 41 = .ok (.aload_n 0, 1) := by decide +kernel
theorem dX8_safe_42 : decode cX8_safe 42 = .ok (.aload_n 0, 1) := by decide +kernel
theorem dX8_safe_43 : decode cX8_safe 43 = .ok (.getfield 28, 3) := by decide +kernel
theorem dX8_safe_46 : decode cX8_safe 46 = .ok (.bipush 11, 2) := by decide +kernel
theorem dX8_safe_48 : decode cX8_safe 48 = .ok (.iaload, 1) := by decide +kernel
theorem dX8_safe_49 : decode cX8_safe 49 = .ok (.iload 5, 2) := by decide +kernel
theorem dX8_safe_51 : decode cX8_safe 51 = .ok (.iadd, 1) := by decide +kernel
theorem dX8_safe_52 : decode cX8_safe 52 = .ok (.invokevirtual 229, 3) := by decide +kernel
theorem dX8_safe_55 : decode cX8_safe 55 = .ok (.iadd, 1) := by decide +kernel
theorem dX8_safe_56 : decode cX8_safe 56 = .ok (.bipush 100, 2) := by decide +kernel
theorem dX8_safe_58 : decode cX8_safe 58 = .ok (.if_icmp .ge 22, 3) := by decide +kernel
theorem dX8_safe_61 : decode cX8_safe 61 = .ok (.iload_n 2, 1) := by decide +kernel
theorem dX8_safe_62 : decode cX8_safe 62 = .ok (.aload_n 0, 1) := by decide +kernel
theorem dX8_safe_63 : decode cX8_safe 63 = .ok (.aload_n 0, 1) := by decide +kernel
theorem dX8_safe_64 : decode cX8_safe 64 = .ok (.getfield 28, 3) := by decide +kernel
theorem dX8_safe_67 : decode cX8_safe 67 = .ok (.bipush 11, 2) := by decide +kernel
theorem dX8_safe_69 : decode cX8_safe 69 = .ok (.iaload, 1) := by decide +kernel
theorem dX8_safe_70 : decode cX8_safe 70 = .ok (.iload 5, 2) := by decide +kernel
theorem dX8_safe_72 : decode cX8_safe 72 = .ok (.iadd, 1) := by decide +kernel
theorem dX8_safe_73 : decode cX8_safe 73 = .ok (.invokevirtual 229, 3) := by decide +kernel
theorem dX8_safe_76 : decode cX8_safe 76 = .ok (.iadd, 1) := by decide +kernel
theorem dX8_safe_77 : decode cX8_safe 77 = .ok (.goto 5, 3) := by decide +kernel
theorem dX8_safe_80 : decode cX8_safe 80 = .ok (.bipush 100, 2) := by decide +kernel
theorem dX8_safe_82 : decode cX8_safe 82 = .ok (.istore 6, 2) := by decide +kernel
theorem dX8_safe_84 : decode cX8_safe 84 = .ok (.lload_n 3, 1) := by decide +kernel
theorem dX8_safe_85 : decode cX8_safe 85 = .ok (.bipush 100, 2) := by decide +kernel
theorem dX8_safe_87 : decode cX8_safe 87 = .ok (.iload 6, 2) := by decide +kernel
theorem dX8_safe_89 : decode cX8_safe 89 = .ok (.isub, 1) := by decide +kernel
theorem dX8_safe_90 : decode cX8_safe 90 = .ok (.i2l, 1) := by decide +kernel
theorem dX8_safe_91 : decode cX8_safe 91 = .ok (.lmul, 1) := by decide +kernel
theorem dX8_safe_92 : decode cX8_safe 92 = .ok (.ldc2_w 253, 3) := by decide +kernel
theorem dX8_safe_95 : decode cX8_safe 95 = .ok (.ldiv, 1) := by decide +kernel
theorem dX8_safe_96 : decode cX8_safe 96 = .ok (.lstore_n 3, 1) := by decide +kernel
theorem dX8_safe_97 : decode cX8_safe 97 = .ok (.iinc 5 1, 3) := by decide +kernel
theorem dX8_safe_100 : decode cX8_safe 100 = .ok (.goto (-66), 3) := by decide +kernel
theorem dX8_safe_103 : decode cX8_safe 103 = .ok (.lload_n 3, 1) := by decide +kernel
theorem dX8_safe_104 : decode cX8_safe 104 = .ok (.l2i, 1) := by decide +kernel
theorem dX8_safe_105 : decode cX8_safe 105 = .ok (.ireturn, 1) := by decide +kernel
set_option maxRecDepth 20000 in
theorem ggX8_watch_X8_in : GoodIn wsX8_watch wsX8_in := goodIn_r _ [10] (by decide +kernel) (by decide +kernel)
set_option maxRecDepth 20000 in
theorem gX8_watch_X8_in : GoodIn wsX8_watch (va_wsS RX8 97 yX8_in wsX8_in) := goodIn_app (goodIn_of _ (by decide +kernel)) ggX8_watch_X8_in
theorem dX8_watch_0 : decode cX8_watch 0 = .ok (.iload_n 1, 1) := by decide +kernel
theorem dX8_watch_1 : decode cX8_watch 1 = .ok (.i2l, 1) := by decide +kernel
theorem dX8_watch_2 : decode cX8_watch 2 = .ok (.lconst 0, 1) := by decide +kernel
theorem dX8_watch_3 : decode cX8_watch 3 = .ok (.aload_n 0, 1) := by decide +kernel
theorem dX8_watch_4 : decode cX8_watch 4 = .ok (.getfield 148, 3) := by decide +kernel
theorem dX8_watch_7 : decode cX8_watch 7 = .ok (.iconst 1, 1) := by decide +kernel
theorem dX8_watch_8 : decode cX8_watch 8 = .ok (.isub, 1) := by decide +kernel
theorem dX8_watch_9 : decode cX8_watch 9 = .ok (.i2l, 1) := by decide +kernel
theorem dX8_watch_10 : decode cX8_watch 10 = .ok (.invokestatic 97, 3) := by decide +kernel
theorem dX8_watch_13 : decode cX8_watch 13 = .ok (.ifCond .ne 6, 3) := by decide +kernel
theorem dX8_watch_16 : decode cX8_watch 16 = .ok (.ldc 190, 2) := by decide +kernel
theorem dX8_watch_18 : decode cX8_watch 18 = .ok (.ireturn, 1) := by decide +kernel
theorem dX8_watch_19 : decode cX8_watch 19 = .ok (.aload_n 0, 1) := by decide +kernel
theorem dX8_watch_20 : decode cX8_watch 20 = .ok (.getfield 157, 3) := by decide +kernel
theorem dX8_watch_23 : decode cX8_watch 23 = .ok (.bipush 8, 2) := by decide +kernel
theorem dX8_watch_25 : decode cX8_watch 25 = .ok (.if_icmp .ne 6, 3) := by decide +kernel
theorem dX8_watch_28 : decode cX8_watch 28 = .ok (.ldc 107, 2) := by decide +kernel
theorem dX8_watch_30 : decode cX8_watch 30 = .ok (.ireturn, 1) := by decide +kernel
theorem dX8_watch_31 : decode cX8_watch 31 = .ok (.aload_n 0, 1) := by decide +kernel
theorem dX8_watch_32 : decode cX8_watch 32 = .ok (.getfield 71, 3) := by decide +kernel
theorem dX8_watch_35 : decode cX8_watch 35 = .ok (.aload_n 0, 1) := by decide +kernel
theorem dX8_watch_36 : decode cX8_watch 36 = .ok (.getfield 157, 3) := by decide +kernel
theorem dX8_watch_39 : decode cX8_watch 39 = .ok (.iload_n 1, 1) := by decide +kernel
theorem dX8_watch_40 : decode cX8_watch 40 = .ok (.iastore, 1) := by decide +kernel
theorem dX8_watch_41 : decode cX8_watch 41 = .ok (.aload_n 0, 1) := by decide +kernel
theorem dX8_watch_42 : decode cX8_watch 42 = .ok (.getfield 74, 3) := by decide +kernel
theorem dX8_watch_45 : decode cX8_watch 45 = .ok (.aload_n 0, 1) := by decide +kernel
theorem dX8_watch_46 : decode cX8_watch 46 = .ok (.getfield 157, 3) := by decide +kernel
theorem dX8_watch_49 : decode cX8_watch 49 = .ok (.iload_n 2, 1) := by decide +kernel
theorem dX8_watch_50 : decode cX8_watch 50 = .ok (.bastore, 1) := by decide +kernel
theorem dX8_watch_51 : decode cX8_watch 51 = .ok (.aload_n 0, 1) := by decide +kernel
theorem dX8_watch_52 : decode cX8_watch 52 = .ok (.dup, 1) := by decide +kernel
theorem dX8_watch_53 : decode cX8_watch 53 = .ok (.getfield 157, 3) := by decide +kernel
theorem dX8_watch_56 : decode cX8_watch 56 = .ok (.iconst 1, 1) := by decide +kernel
theorem dX8_watch_57 : decode cX8_watch 57 = .ok (.iadd, 1) := by decide +kernel
theorem dX8_watch_58 : decode cX8_watch 58 = .ok (.putfield 157, 3) := by decide +kernel
theorem dX8_watch_61 : decode cX8_watch 61 = .ok (.aload_n 0, 1) := by decide +kernel
theorem dX8_watch_62 : decode cX8_watch 62 = .ok (.getfield 157, 3) := by decide +kernel
theorem dX8_watch_65 : decode cX8_watch 65 = .ok (.ireturn, 1) := by decide +kernel
set_option maxRecDepth 20000 in
theorem ggX8_fits_X8_goesAt : GoodIn wsX8_fits wsX8_goesAt := goodIn_r _ [9, 10, 11, 12, 13, 14, 15, 8, 16, 17, 18, 19, 20, 21, 22, 23, 24, 25, 26, 27, 28, 29, 30, 31, 32, 33, 34, 35, 36, 37, 38, 39, 40, 41, 42, 43, 44, 45, 46, 47, 48, 49, 50, 51, 52, 53, 54, 55, 56, 57, 58, 59, 60] (by decide +kernel) (by decide +kernel)
set_option maxRecDepth 20000 in
theorem gX8_fits_X8_goesAt : GoodIn wsX8_fits (wsV RX8 170 RX8 yX8_goesAt wsX8_goesAt) := goodIn_app (goodIn_of _ (by decide +kernel)) ggX8_fits_X8_goesAt
theorem dX8_fits_0 : decode cX8_fits 0 = .ok (.iconst 0, 1) := by decide +kernel
theorem dX8_fits_1 : decode cX8_fits 1 = .ok (.istore_n 1, 1) := by decide +kernel
theorem dX8_fits_2 : decode cX8_fits 2 = .ok (.iconst 0, 1) := by decide +kernel
theorem dX8_fits_3 : decode cX8_fits 3 = .ok (.istore_n 2, 1) := by decide +kernel
theorem dX8_fits_4 : decode cX8_fits 4 = .ok (.iload_n 2, 1) := by decide +kernel
theorem dX8_fits_5 : decode cX8_fits 5 = .ok (.aload_n 0, 1) := by decide +kernel
theorem dX8_fits_6 : decode cX8_fits 6 = .ok (.getfield 28, 3) := by decide +kernel
theorem dX8_fits_9 : decode cX8_fits 9 = .ok (.bipush 8, 2) := by decide +kernel
theorem dX8_fits_11 : decode cX8_fits 11 = .ok (.iaload, 1) := by decide +kernel
theorem dX8_fits_12 : decode cX8_fits 12 = .ok (.if_icmp .ge 75, 3) := by decide +kernel
theorem dX8_fits_15 : decode cX8_fits 15 = .ok (.iconst 1, 1) := by decide +kernel
theorem dX8_fits_16 : decode cX8_fits 16 = .ok (.istore_n 3, 1) := by decide +kernel
theorem dX8_fits_17 : decode cX8_fits 17 = .ok (.iconst 0, 1) := by decide +kernel
theorem dX8_fits_18 : decode cX8_fits 18 = .ok (.istore 4, 2) := by decide +kernel
theorem dX8_fits_20 : decode cX8_fits 20 = .ok (.iload 4, 2) := by decide +kernel
theorem dX8_fits_22 : decode cX8_fits 22 = .ok (.aload_n 0, 1) := by decide +kernel
theorem dX8_fits_23 : decode cX8_fits 23 = .ok (.getfield 157, 3) := by decide +kernel
theorem dX8_fits_26 : decode cX8_fits 26 = .ok (.if_icmp .ge 41, 3) := by decide +kernel
theorem dX8_fits_29 : decode cX8_fits 29 = .ok (.iload_n 3, 1) := by decide +kernel
theorem dX8_fits_30 : decode cX8_fits 30 = .ok (.ifCond .eq 29, 3) := by decide +kernel
theorem dX8_fits_33 : decode cX8_fits 33 = .ok (.aload_n 0, 1) := by decide +kernel
theorem dX8_fits_34 : decode cX8_fits 34 = .ok (.iload_n 2, 1) := by decide +kernel
theorem dX8_fits_35 : decode cX8_fits 35 = .ok (.aload_n 0, 1) := by decide +kernel
theorem dX8_fits_36 : decode cX8_fits 36 = .ok (.getfield 71, 3) := by decide +kernel
theorem dX8_fits_39 : decode cX8_fits 39 = .ok (.iload 4, 2) := by decide +kernel
theorem dX8_fits_41 : decode cX8_fits 41 = .ok (.iaload, 1) := by decide +kernel
theorem dX8_fits_42 : decode cX8_fits 42 = .ok (.invokevirtual 170, 3) := by decide +kernel
theorem dX8_fits_45 : decode cX8_fits 45 = .ok (.aload_n 0, 1) := by decide +kernel
theorem dX8_fits_46 : decode cX8_fits 46 = .ok (.getfield 74, 3) := by decide +kernel
theorem dX8_fits_49 : decode cX8_fits 49 = .ok (.iload 4, 2) := by decide +kernel
theorem dX8_fits_51 : decode cX8_fits 51 = .ok (.baload, 1) := by decide +kernel
theorem dX8_fits_52 : decode cX8_fits 52 = .ok (.if_icmp .ne 7, 3) := by decide +kernel
theorem dX8_fits_55 : decode cX8_fits 55 = .ok (.iconst 1, 1) := by decide +kernel
theorem dX8_fits_56 : decode cX8_fits 56 = .ok (.goto 4, 3) := by decide +kernel
theorem dX8_fits_59 : decode cX8_fits 59 = .ok (.iconst 0, 1) := by decide +kernel
theorem dX8_fits_60 : decode cX8_fits 60 = .ok (.istore_n 3, 1) := by decide +kernel
theorem dX8_fits_61 : decode cX8_fits 61 = .ok (.iinc 4 1, 3) := by decide +kernel
theorem dX8_fits_64 : decode cX8_fits 64 = .ok (.goto (-44), 3) := by decide +kernel
theorem dX8_fits_67 : decode cX8_fits 67 = .ok (.iload_n 1, 1) := by decide +kernel
theorem dX8_fits_68 : decode cX8_fits 68 = .ok (.iload_n 3, 1) := by decide +kernel
theorem dX8_fits_69 : decode cX8_fits 69 = .ok (.ifCond .eq 9, 3) := by decide +kernel
theorem dX8_fits_72 : decode cX8_fits 72 = .ok (.iconst 1, 1) := by decide +kernel
theorem dX8_fits_73 : decode cX8_fits 73 = .ok (.iload_n 2, 1) := by decide +kernel
theorem dX8_fits_74 : decode cX8_fits 74 = .ok (.ishl, 1) := by decide +kernel
theorem dX8_fits_75 : decode cX8_fits 75 = .ok (.goto 4, 3) := by decide +kernel
theorem dX8_fits_78 : decode cX8_fits 78 = .ok (.iconst 0, 1) := by decide +kernel
theorem dX8_fits_79 : decode cX8_fits 79 = .ok (.ior, 1) := by decide +kernel
theorem dX8_fits_80 : decode cX8_fits 80 = .ok (.istore_n 1, 1) := by decide +kernel
theorem dX8_fits_81 : decode cX8_fits 81 = .ok (.iinc 2 1, 3) := by decide +kernel
theorem dX8_fits_84 : decode cX8_fits 84 = .ok (.goto (-80), 3) := by decide +kernel
theorem dX8_fits_87 : decode cX8_fits 87 = .ok (.iload_n 1, 1) := by decide +kernel
theorem dX8_fits_88 : decode cX8_fits 88 = .ok (.ireturn, 1) := by decide +kernel
set_option maxRecDepth 20000 in
theorem ggX8_lookOn_X8_fits : GoodIn wsX8_lookOn wsX8_fits := goodIn_r _ [7, 2, 8, 9, 10, 11, 12, 13, 6, 14, 15, 16, 17, 18, 19, 20, 21, 22, 23, 24, 25, 26, 27, 31, 32, 33, 34, 35, 36, 37, 38, 39, 40, 41, 42, 43, 44, 45, 46, 47, 48, 49, 50, 51, 52, 53, 54, 55, 56, 57, 58, 59, 60, 61, 62, 63, 64, 65, 66, 67, 68] (by decide +kernel) (by decide +kernel)
set_option maxRecDepth 20000 in
theorem gX8_lookOn_X8_fits : GoodIn wsX8_lookOn (wsV RX8 257 RX8 yX8_fits wsX8_fits) := goodIn_app (goodIn_of _ (by decide +kernel)) ggX8_lookOn_X8_fits
set_option maxRecDepth 20000 in
theorem ggX8_lookOn_X8_bits : GoodIn wsX8_lookOn wsX8_bits := goodIn_r _ [30] (by decide +kernel) (by decide +kernel)
set_option maxRecDepth 20000 in
theorem gX8_lookOn_X8_bits : GoodIn wsX8_lookOn (va_wsS RX8 180 yX8_bits wsX8_bits) := goodIn_app (goodIn_of _ (by decide +kernel)) ggX8_lookOn_X8_bits
set_option maxRecDepth 20000 in
theorem ggX8_lookOn_X8_has : GoodIn wsX8_lookOn wsX8_has := goodIn_r _ [27] (by decide +kernel) (by decide +kernel)
set_option maxRecDepth 20000 in
theorem gX8_lookOn_X8_has : GoodIn wsX8_lookOn (va_wsS RX8 93 yX8_has wsX8_has) := goodIn_app (goodIn_of _ (by decide +kernel)) ggX8_lookOn_X8_has
set_option maxRecDepth 20000 in
theorem ggX8_lookOn_X8_goesAt : GoodIn wsX8_lookOn wsX8_goesAt := goodIn_r _ [14, 15, 16, 17, 18, 19, 20, 6, 21, 22, 23, 24, 25, 26, 27, 31, 32, 33, 34, 35, 36, 37, 38, 39, 40, 41, 42, 43, 44, 45, 46, 47, 48, 49, 50, 51, 52, 53, 54, 55, 56, 57, 58, 59, 60, 61, 62, 63, 64, 65, 66, 67, 68] (by decide +kernel) (by decide +kernel)
set_option maxRecDepth 20000 in
theorem gX8_lookOn_X8_goesAt : GoodIn wsX8_lookOn (wsV RX8 170 RX8 yX8_goesAt wsX8_goesAt) := goodIn_app (goodIn_of _ (by decide +kernel)) ggX8_lookOn_X8_goesAt
theorem dX8_lookOn_0 : decode cX8_lookOn 0 = .ok (.aload_n 0, 1) := by decide +kernel
theorem dX8_lookOn_1 : decode cX8_lookOn 1 = .ok (.invokevirtual 257, 3) := by decide +kernel
theorem dX8_lookOn_4 : decode cX8_lookOn 4 = .ok (.istore_n 1, 1) := by decide +kernel
theorem dX8_lookOn_5 : decode cX8_lookOn 5 = .ok (.iconst (-1), 1) := by decide +kernel
theorem dX8_lookOn_6 : decode cX8_lookOn 6 = .ok (.istore_n 2, 1) := by decide +kernel
theorem dX8_lookOn_7 : decode cX8_lookOn 7 = .ok (.iload_n 1, 1) := by decide +kernel
theorem dX8_lookOn_8 : decode cX8_lookOn 8 = .ok (.invokestatic 180, 3) := by decide +kernel
theorem dX8_lookOn_11 : decode cX8_lookOn 11 = .ok (.istore_n 3, 1) := by decide +kernel
theorem dX8_lookOn_12 : decode cX8_lookOn 12 = .ok (.iconst 0, 1) := by decide +kernel
theorem dX8_lookOn_13 : decode cX8_lookOn 13 = .ok (.istore 4, 2) := by decide +kernel
theorem dX8_lookOn_15 : decode cX8_lookOn 15 = .ok (.iload 4, 2) := by decide +kernel
theorem dX8_lookOn_17 : decode cX8_lookOn 17 = .ok (.aload_n 0, 1) := by decide +kernel
theorem dX8_lookOn_18 : decode cX8_lookOn 18 = .ok (.getfield 148, 3) := by decide +kernel
theorem dX8_lookOn_21 : decode cX8_lookOn 21 = .ok (.if_icmp .ge 115, 3) := by decide +kernel
theorem dX8_lookOn_24 : decode cX8_lookOn 24 = .ok (.iconst 0, 1) := by decide +kernel
theorem dX8_lookOn_25 : decode cX8_lookOn 25 = .ok (.istore 5, 2) := by decide +kernel
theorem dX8_lookOn_27 : decode cX8_lookOn 27 = .ok (.iconst 0, 1) := by decide +kernel
theorem dX8_lookOn_28 : decode cX8_lookOn 28 = .ok (.istore 6, 2) := by decide +kernel
theorem dX8_lookOn_30 : decode cX8_lookOn 30 = .ok (.iload 6, 2) := by decide +kernel
theorem dX8_lookOn_32 : decode cX8_lookOn 32 = .ok (.aload_n 0, 1) := by decide +kernel
theorem dX8_lookOn_33 : decode cX8_lookOn 33 = .ok (.getfield 28, 3) := by decide +kernel
theorem dX8_lookOn_36 : decode cX8_lookOn 36 = .ok (.bipush 8, 2) := by decide +kernel
theorem dX8_lookOn_38 : decode cX8_lookOn 38 = .ok (.iaload, 1) := by decide +kernel
theorem dX8_lookOn_39 : decode cX8_lookOn 39 = .ok (.if_icmp .ge 39, 3) := by decide +kernel
theorem dX8_lookOn_42 : decode cX8_lookOn 42 = .ok (.iload 5, 2) := by decide +kernel
theorem dX8_lookOn_44 : decode cX8_lookOn 44 = .ok (.iload_n 1, 1) := by decide +kernel
theorem dX8_lookOn_45 : decode cX8_lookOn 45 = .ok (.iload 6, 2) := by decide +kernel
theorem dX8_lookOn_47 : decode cX8_lookOn 47 = .ok (.invokestatic 93, 3) := by decide +kernel
theorem dX8_lookOn_50 : decode cX8_lookOn 50 = .ok (.ifCond .eq 18, 3) := by decide +kernel
theorem dX8_lookOn_53 : decode cX8_lookOn 53 = .ok (.aload_n 0, 1) := by decide +kernel
theorem dX8_lookOn_54 : decode cX8_lookOn 54 = .ok (.iload 6, 2) := by decide +kernel
theorem dX8_lookOn_56 : decode cX8_lookOn 56 = .ok (.iload 4, 2) := by decide +kernel
theorem dX8_lookOn_58 : decode cX8_lookOn 58 = .ok (.invokevirtual 170, 3) := by decide +kernel
theorem dX8_lookOn_61 : decode cX8_lookOn 61 = .ok (.ifCond .eq 7, 3) := by decide +kernel
theorem dX8_lookOn_64 : decode cX8_lookOn 64 = .ok (.iconst 1, 1) := by decide +kernel
theorem dX8_lookOn_65 : decode cX8_lookOn 65 = .ok (.goto 4, 3) := by decide +kernel
theorem dX8_lookOn_68 : decode cX8_lookOn 68 = .ok (.iconst 0, 1) := by decide +kernel
theorem dX8_lookOn_69 : decode cX8_lookOn 69 = .ok (.iadd, 1) := by decide +kernel
theorem dX8_lookOn_70 : decode cX8_lookOn 70 = .ok (.istore 5, 2) := by decide +kernel
theorem dX8_lookOn_72 : decode cX8_lookOn 72 = .ok (.iinc 6 1, 3) := by decide +kernel
theorem dX8_lookOn_75 : decode cX8_lookOn 75 = .ok (.goto (-45), 3) := by decide +kernel
theorem dX8_lookOn_78 : decode cX8_lookOn 78 = .ok (.iload 5, 2) := by decide +kernel
theorem dX8_lookOn_80 : decode cX8_lookOn 80 = .ok (.iload_n 1, 1) := by decide +kernel
theorem dX8_lookOn_81 : decode cX8_lookOn 81 = .ok (.invokestatic 180, 3) := by decide +kernel
theorem dX8_lookOn_84 : decode cX8_lookOn 84 = .ok (.iload 5, 2) := by decide +kernel
theorem dX8_lookOn_86 : decode cX8_lookOn 86 = .ok (.isub, 1) := by decide +kernel
theorem dX8_lookOn_87 : decode cX8_lookOn 87 = .ok (.if_icmp .le 8, 3) := by decide +kernel
theorem dX8_lookOn_90 : decode cX8_lookOn 90 = .ok (.iload 5, 2) := by decide +kernel
theorem dX8_lookOn_92 : decode cX8_lookOn 92 = .ok (.goto 10, 3) := by decide +kernel
theorem dX8_lookOn_95 : decode cX8_lookOn 95 = .ok (.iload_n 1, 1) := by decide +kernel
theorem dX8_lookOn_96 : decode cX8_lookOn 96 = .ok (.invokestatic 180, 3) := by decide +kernel
theorem dX8_lookOn_99 : decode cX8_lookOn 99 = .ok (.iload 5, 2) := by decide +kernel
theorem dX8_lookOn_101 : decode cX8_lookOn 101 = .ok (.isub, 1) := by decide +kernel
theorem dX8_lookOn_102 : decode cX8_lookOn 102 = .ok (.istore 6, 2) := by decide +kernel
theorem dX8_lookOn_104 : decode cX8_lookOn 104 = .ok (.iload 6, 2) := by decide +kernel
theorem dX8_lookOn_106 : decode cX8_lookOn 106 = .ok (.iload_n 3, 1) := by decide +kernel
theorem dX8_lookOn_107 : decode cX8_lookOn 107 = .ok (.if_icmp .ge 8, 3) := by decide +kernel
theorem dX8_lookOn_110 : decode cX8_lookOn 110 = .ok (.iload 4, 2) := by decide +kernel
theorem dX8_lookOn_112 : decode cX8_lookOn 112 = .ok (.goto 4, 3) := by decide +kernel
theorem dX8_lookOn_115 : decode cX8_lookOn 115 = .ok (.iload_n 2, 1) := by decide +kernel
theorem dX8_lookOn_116 : decode cX8_lookOn 116 = .ok (.istore_n 2, 1) := by decide +kernel
theorem dX8_lookOn_117 : decode cX8_lookOn 117 = .ok (.iload 6, 2) := by decide +kernel
theorem dX8_lookOn_119 : decode cX8_lookOn 119 = .ok (.iload_n 3, 1) := by decide +kernel
theorem dX8_lookOn_120 : decode cX8_lookOn 120 = .ok (.if_icmp .ge 8, 3) := by decide +kernel
theorem dX8_lookOn_123 : decode cX8_lookOn 123 = .ok (.iload 6, 2) := by decide +kernel
theorem dX8_lookOn_125 : decode cX8_lookOn 125 = .ok (.goto 4, 3) := by decide +kernel
theorem dX8_lookOn_128 : decode cX8_lookOn 128 = .ok (.iload_n 3, 1) := by decide +kernel
theorem dX8_lookOn_129 : decode cX8_lookOn 129 = .ok (.istore_n 3, 1) := by decide +kernel
theorem dX8_lookOn_130 : decode cX8_lookOn 130 = .ok (.iinc 4 1, 3) := by decide +kernel
theorem dX8_lookOn_133 : decode cX8_lookOn 133 = .ok (.goto (-118), 3) := by decide +kernel
theorem dX8_lookOn_136 : decode cX8_lookOn 136 = .ok (.iload_n 2, 1) := by decide +kernel
theorem dX8_lookOn_137 : decode cX8_lookOn 137 = .ok (.ireturn, 1) := by decide +kernel
set_option maxRecDepth 20000 in
theorem ggX8_write_X8_isPerson : GoodIn wsX8_write wsX8_isPerson := goodIn_r _ [12, 13, 14, 15, 11, 16, 17, 18, 19, 20, 21, 22, 23, 24, 25, 26, 27, 28, 29, 30, 31, 32, 33, 34, 35, 36, 37, 38, 39, 40, 41, 42, 43, 44, 45, 46, 47, 48, 49, 50, 51, 52, 53, 54] (by decide +kernel) (by decide +kernel)
set_option maxRecDepth 20000 in
theorem gX8_write_X8_isPerson : GoodIn wsX8_write (wsV RX8 187 RX8 yX8_isPerson wsX8_isPerson) := goodIn_app (goodIn_of _ (by decide +kernel)) ggX8_write_X8_isPerson
set_option maxRecDepth 20000 in
theorem ggX8_write_X8_in : GoodIn wsX8_write wsX8_in := goodIn_r _ [16] (by decide +kernel) (by decide +kernel)
set_option maxRecDepth 20000 in
theorem gX8_write_X8_in : GoodIn wsX8_write (va_wsS RX8 97 yX8_in wsX8_in) := goodIn_app (goodIn_of _ (by decide +kernel)) ggX8_write_X8_in
theorem dX8_write_0 : decode cX8_write 0 = .ok (.aload_n 0, 1) := by decide +kernel
theorem dX8_write_1 : decode cX8_write 1 = .ok (.iload_n 1, 1) := by decide +kernel
theorem dX8_write_2 : decode cX8_write 2 = .ok (.invokevirtual 187, 3) := by decide +kernel
theorem dX8_write_5 : decode cX8_write 5 = .ok (.ifCond .ne 6, 3) := by decide +kernel
theorem dX8_write_8 : decode cX8_write 8 = .ok (.ldc 190, 2) := by decide +kernel
theorem dX8_write_10 : decode cX8_write 10 = .ok (.ireturn, 1) := by decide +kernel
theorem dX8_write_11 : decode cX8_write 11 = .ok (.iload_n 2, 1) := by decide +kernel
theorem dX8_write_12 : decode cX8_write 12 = .ok (.i2l, 1) := by decide +kernel
theorem dX8_write_13 : decode cX8_write 13 = .ok (.lconst 0, 1) := by decide +kernel
theorem dX8_write_14 : decode cX8_write 14 = .ok (.ldc2_w 101, 3) := by decide +kernel
theorem dX8_write_17 : decode cX8_write 17 = .ok (.invokestatic 97, 3) := by decide +kernel
theorem dX8_write_20 : decode cX8_write 20 = .ok (.ifCond .ne 6, 3) := by decide +kernel
theorem dX8_write_23 : decode cX8_write 23 = .ok (.ldc 103, 2) := by decide +kernel
theorem dX8_write_25 : decode cX8_write 25 = .ok (.ireturn, 1) := by decide +kernel
theorem dX8_write_26 : decode cX8_write 26 = .ok (.aload_n 0, 1) := by decide +kernel
theorem dX8_write_27 : decode cX8_write 27 = .ok (.getfield 160, 3) := by decide +kernel
theorem dX8_write_30 : decode cX8_write 30 = .ok (.bipush 15, 2) := by decide +kernel
theorem dX8_write_32 : decode cX8_write 32 = .ok (.if_icmp .ne 6, 3) := by decide +kernel
theorem dX8_write_35 : decode cX8_write 35 = .ok (.ldc 107, 2) := by decide +kernel
theorem dX8_write_37 : decode cX8_write 37 = .ok (.ireturn, 1) := by decide +kernel
theorem dX8_write_38 : decode cX8_write 38 = .ok (.aload_n 0, 1) := by decide +kernel
theorem dX8_write_39 : decode cX8_write 39 = .ok (.getfield 78, 3) := by decide +kernel
theorem dX8_write_42 : decode cX8_write 42 = .ok (.aload_n 0, 1) := by decide +kernel
theorem dX8_write_43 : decode cX8_write 43 = .ok (.getfield 160, 3) := by decide +kernel
theorem dX8_write_46 : decode cX8_write 46 = .ok (.iload_n 1, 1) := by decide +kernel
theorem dX8_write_47 : decode cX8_write 47 = .ok (.iastore, 1) := by decide +kernel
theorem dX8_write_48 : decode cX8_write 48 = .ok (.aload_n 0, 1) := by decide +kernel
theorem dX8_write_49 : decode cX8_write 49 = .ok (.getfield 81, 3) := by decide +kernel
theorem dX8_write_52 : decode cX8_write 52 = .ok (.aload_n 0, 1) := by decide +kernel
theorem dX8_write_53 : decode cX8_write 53 = .ok (.getfield 160, 3) := by decide +kernel
theorem dX8_write_56 : decode cX8_write 56 = .ok (.iload_n 2, 1) := by decide +kernel
theorem dX8_write_57 : decode cX8_write 57 = .ok (.iastore, 1) := by decide +kernel
theorem dX8_write_58 : decode cX8_write 58 = .ok (.aload_n 0, 1) := by decide +kernel
theorem dX8_write_59 : decode cX8_write 59 = .ok (.dup, 1) := by decide +kernel
theorem dX8_write_60 : decode cX8_write 60 = .ok (.getfield 160, 3) := by decide +kernel
theorem dX8_write_63 : decode cX8_write 63 = .ok (.iconst 1, 1) := by decide +kernel
theorem dX8_write_64 : decode cX8_write 64 = .ok (.iadd, 1) := by decide +kernel
theorem dX8_write_65 : decode cX8_write 65 = .ok (.putfield 160, 3) := by decide +kernel
theorem dX8_write_68 : decode cX8_write 68 = .ok (.aload_n 0, 1) := by decide +kernel
theorem dX8_write_69 : decode cX8_write 69 = .ok (.getfield 160, 3) := by decide +kernel
theorem dX8_write_72 : decode cX8_write 72 = .ok (.ireturn, 1) := by decide +kernel
theorem dX8_tear_0 : decode cX8_tear 0 = .ok (.aload_n 0, 1) := by decide +kernel
theorem dX8_tear_1 : decode cX8_tear 1 = .ok (.getfield 157, 3) := by decide +kernel
theorem dX8_tear_4 : decode cX8_tear 4 = .ok (.aload_n 0, 1) := by decide +kernel
theorem dX8_tear_5 : decode cX8_tear 5 = .ok (.getfield 160, 3) := by decide +kernel
theorem dX8_tear_8 : decode cX8_tear 8 = .ok (.iadd, 1) := by decide +kernel
theorem dX8_tear_9 : decode cX8_tear 9 = .ok (.istore_n 1, 1) := by decide +kernel
theorem dX8_tear_10 : decode cX8_tear 10 = .ok (.aload_n 0, 1) := by decide +kernel
theorem dX8_tear_11 : decode cX8_tear 11 = .ok (.iconst 0, 1) := by decide +kernel
theorem dX8_tear_12 : decode cX8_tear 12 = .ok (.putfield 157, 3) := by decide +kernel
theorem dX8_tear_15 : decode cX8_tear 15 = .ok (.aload_n 0, 1) := by decide +kernel
theorem dX8_tear_16 : decode cX8_tear 16 = .ok (.iconst 0, 1) := by decide +kernel
theorem dX8_tear_17 : decode cX8_tear 17 = .ok (.putfield 160, 3) := by decide +kernel
theorem dX8_tear_20 : decode cX8_tear 20 = .ok (.iload_n 1, 1) := by decide +kernel
theorem dX8_tear_21 : decode cX8_tear 21 = .ok (.ireturn, 1) := by decide +kernel
set_option maxRecDepth 20000 in
theorem ggX8_judge_X8_isPerson : GoodIn wsX8_judge wsX8_isPerson := goodIn_r _ [9, 3, 10, 11, 8, 12, 13, 14, 15, 16, 17, 18, 19, 20, 21, 22, 23, 24, 25, 26, 27, 28, 29, 30, 31, 32, 33, 34, 35, 36, 37, 38, 39, 40, 41, 42, 43, 44, 45, 46, 47, 48, 49, 50] (by decide +kernel) (by decide +kernel)
set_option maxRecDepth 20000 in
theorem gX8_judge_X8_isPerson : GoodIn wsX8_judge (wsV RX8 187 RX8 yX8_isPerson wsX8_isPerson) := goodIn_app (goodIn_of _ (by decide +kernel)) ggX8_judge_X8_isPerson
theorem dX8_judge_0 : decode cX8_judge 0 = .ok (.iconst 0, 1) := by decide +kernel
theorem dX8_judge_1 : decode cX8_judge 1 = .ok (.istore_n 1, 1) := by decide +kernel
theorem dX8_judge_2 : decode cX8_judge 2 = .ok (.iload_n 1, 1) := by decide +kernel
theorem dX8_judge_3 : decode cX8_judge 3 = .ok (.aload_n 0, 1) := by decide +kernel
theorem dX8_judge_4 : decode cX8_judge 4 = .ok (.getfield 160, 3) := by decide +kernel
theorem dX8_judge_7 : decode cX8_judge 7 = .ok (.if_icmp .ge 44, 3) := by decide +kernel
theorem dX8_judge_10 : decode cX8_judge 10 = .ok (.aload_n 0, 1) := by decide +kernel
theorem dX8_judge_11 : decode cX8_judge 11 = .ok (.aload_n 0, 1) := by decide +kernel
theorem dX8_judge_12 : decode cX8_judge 12 = .ok (.getfield 78, 3) := by decide +kernel
theorem dX8_judge_15 : decode cX8_judge 15 = .ok (.iload_n 1, 1) := by decide +kernel
theorem dX8_judge_16 : decode cX8_judge 16 = .ok (.iaload, 1) := by decide +kernel
theorem dX8_judge_17 : decode cX8_judge 17 = .ok (.invokevirtual 187, 3) := by decide +kernel
theorem dX8_judge_20 : decode cX8_judge 20 = .ok (.ifCond .eq 23, 3) := by decide +kernel
theorem dX8_judge_23 : decode cX8_judge 23 = .ok (.aload_n 0, 1) := by decide +kernel
theorem dX8_judge_24 : decode cX8_judge 24 = .ok (.getfield 28, 3) := by decide +kernel
theorem dX8_judge_27 : decode cX8_judge 27 = .ok (.aload_n 0, 1) := by decide +kernel
theorem dX8_judge_28 : decode cX8_judge 28 = .ok (.getfield 78, 3) := by decide +kernel
theorem dX8_judge_31 : decode cX8_judge 31 = .ok (.iload_n 1, 1) := by decide +kernel
theorem dX8_judge_32 : decode cX8_judge 32 = .ok (.iaload, 1) := by decide +kernel
theorem dX8_judge_33 : decode cX8_judge 33 = .ok (.iaload, 1) := by decide +kernel
theorem dX8_judge_34 : decode cX8_judge 34 = .ok (.aload_n 0, 1) := by decide +kernel
theorem dX8_judge_35 : decode cX8_judge 35 = .ok (.getfield 81, 3) := by decide +kernel
theorem dX8_judge_38 : decode cX8_judge 38 = .ok (.iload_n 1, 1) := by decide +kernel
theorem dX8_judge_39 : decode cX8_judge 39 = .ok (.iaload, 1) := by decide +kernel
theorem dX8_judge_40 : decode cX8_judge 40 = .ok (.if_icmp .eq 5, 3) := by decide +kernel
theorem dX8_judge_43 : decode cX8_judge 43 = .ok (.iload_n 1, 1) := by decide +kernel
theorem dX8_judge_44 : decode cX8_judge 44 = .ok (.ireturn, 1) := by decide +kernel
theorem dX8_judge_45 : decode cX8_judge 45 = .ok (.iinc 1 1, 3) := by decide +kernel
theorem dX8_judge_48 : decode cX8_judge 48 = .ok (.goto (-46), 3) := by decide +kernel
theorem dX8_judge_51 : decode cX8_judge 51 = .ok (.iconst (-1), 1) := by decide +kernel
theorem dX8_judge_52 : decode cX8_judge 52 = .ok (.ireturn, 1) := by decide +kernel
theorem dX8_seed_0 : decode cX8_seed 0 = .ok (.iload_n 1, 1) := by decide +kernel
theorem dX8_seed_1 : decode cX8_seed 1 = .ok (.ifCond .ge 6, 3) := by decide +kernel
theorem dX8_seed_4 : decode cX8_seed 4 = .ok (.ldc 103, 2) := by decide +kernel
theorem dX8_seed_6 : decode cX8_seed 6 = .ok (.ireturn, 1) := by decide +kernel
theorem dX8_seed_7 : decode cX8_seed 7 = .ok (.aload_n 0, 1) := by decide +kernel
theorem dX8_seed_8 : decode cX8_seed 8 = .ok (.getfield 216, 3) := by decide +kernel
theorem dX8_seed_11 : decode cX8_seed 11 = .ok (.istore_n 2, 1) := by decide +kernel
theorem dX8_seed_12 : decode cX8_seed 12 = .ok (.aload_n 0, 1) := by decide +kernel
theorem dX8_seed_13 : decode cX8_seed 13 = .ok (.iload_n 1, 1) := by decide +kernel
theorem dX8_seed_14 : decode cX8_seed 14 = .ok (.putfield 216, 3) := by decide +kernel
theorem dX8_seed_17 : decode cX8_seed 17 = .ok (.iload_n 2, 1) := by decide +kernel
theorem dX8_seed_18 : decode cX8_seed 18 = .ok (.ireturn, 1) := by decide +kernel
set_option maxRecDepth 20000 in
theorem ggX8_keep_X8_in : GoodIn wsX8_keep wsX8_in := goodIn_r _ [10] (by decide +kernel) (by decide +kernel)
set_option maxRecDepth 20000 in
theorem gX8_keep_X8_in : GoodIn wsX8_keep (va_wsS RX8 97 yX8_in wsX8_in) := goodIn_app (goodIn_of _ (by decide +kernel)) ggX8_keep_X8_in
theorem dX8_keep_0 : decode cX8_keep 0 = .ok (.iload_n 1, 1) := by decide +kernel
theorem dX8_keep_1 : decode cX8_keep 1 = .ok (.i2l, 1) := by decide +kernel
theorem dX8_keep_2 : decode cX8_keep 2 = .ok (.lconst 0, 1) := by decide +kernel
theorem dX8_keep_3 : decode cX8_keep 3 = .ok (.lconst 1, 1) := by decide +kernel
theorem dX8_keep_4 : decode cX8_keep 4 = .ok (.invokestatic 97, 3) := by decide +kernel
theorem dX8_keep_7 : decode cX8_keep 7 = .ok (.ifCond .ne 6, 3) := by decide +kernel
theorem dX8_keep_10 : decode cX8_keep 10 = .ok (.ldc 190, 2) := by decide +kernel
theorem dX8_keep_12 : decode cX8_keep 12 = .ok (.ireturn, 1) := by decide +kernel
theorem dX8_keep_13 : decode cX8_keep 13 = .ok (.iconst 0, 1) := by decide +kernel
theorem dX8_keep_14 : decode cX8_keep 14 = .ok (.istore_n 2, 1) := by decide +kernel
theorem dX8_keep_15 : decode cX8_keep 15 = .ok (.iload_n 2, 1) := by decide +kernel
theorem dX8_keep_16 : decode cX8_keep 16 = .ok (.bipush 13, 2) := by decide +kernel
theorem dX8_keep_18 : decode cX8_keep 18 = .ok (.if_icmp .ge 26, 3) := by decide +kernel
theorem dX8_keep_21 : decode cX8_keep 21 = .ok (.aload_n 0, 1) := by decide +kernel
theorem dX8_keep_22 : decode cX8_keep 22 = .ok (.getfield 84, 3) := by decide +kernel
theorem dX8_keep_25 : decode cX8_keep 25 = .ok (.bipush 14, 2) := by decide +kernel
theorem dX8_keep_27 : decode cX8_keep 27 = .ok (.iload_n 1, 1) := by decide +kernel
theorem dX8_keep_28 : decode cX8_keep 28 = .ok (.imul, 1) := by decide +kernel
theorem dX8_keep_29 : decode cX8_keep 29 = .ok (.iload_n 2, 1) := by decide +kernel
theorem dX8_keep_30 : decode cX8_keep 30 = .ok (.iadd, 1) := by decide +kernel
theorem dX8_keep_31 : decode cX8_keep 31 = .ok (.aload_n 0, 1) := by decide +kernel
theorem dX8_keep_32 : decode cX8_keep 32 = .ok (.getfield 28, 3) := by decide +kernel
theorem dX8_keep_35 : decode cX8_keep 35 = .ok (.iload_n 2, 1) := by decide +kernel
theorem dX8_keep_36 : decode cX8_keep 36 = .ok (.iaload, 1) := by decide +kernel
theorem dX8_keep_37 : decode cX8_keep 37 = .ok (.iastore, 1) := by decide +kernel
theorem dX8_keep_38 : decode cX8_keep 38 = .ok (.iinc 2 1, 3) := by decide +kernel
theorem dX8_keep_41 : decode cX8_keep 41 = .ok (.goto (-26), 3) := by decide +kernel
theorem dX8_keep_44 : decode cX8_keep 44 = .ok (.aload_n 0, 1) := by decide +kernel
theorem dX8_keep_45 : decode cX8_keep 45 = .ok (.getfield 84, 3) := by decide +kernel
theorem dX8_keep_48 : decode cX8_keep 48 = .ok (.bipush 14, 2) := by decide +kernel
theorem dX8_keep_50 : decode cX8_keep 50 = .ok (.iload_n 1, 1) := by decide +kernel
theorem dX8_keep_51 : decode cX8_keep 51 = .ok (.imul, 1) := by decide +kernel
theorem dX8_keep_52 : decode cX8_keep 52 = .ok (.bipush 13, 2) := by decide +kernel
theorem dX8_keep_54 : decode cX8_keep 54 = .ok (.iadd, 1) := by decide +kernel
theorem dX8_keep_55 : decode cX8_keep 55 = .ok (.aload_n 0, 1) := by decide +kernel
theorem dX8_keep_56 : decode cX8_keep 56 = .ok (.getfield 216, 3) := by decide +kernel
theorem dX8_keep_59 : decode cX8_keep 59 = .ok (.iastore, 1) := by decide +kernel
theorem dX8_keep_60 : decode cX8_keep 60 = .ok (.aload_n 0, 1) := by decide +kernel
theorem dX8_keep_61 : decode cX8_keep 61 = .ok (.getfield 87, 3) := by decide +kernel
theorem dX8_keep_64 : decode cX8_keep 64 = .ok (.iload_n 1, 1) := by decide +kernel
theorem dX8_keep_65 : decode cX8_keep 65 = .ok (.iconst 1, 1) := by decide +kernel
theorem dX8_keep_66 : decode cX8_keep 66 = .ok (.bastore, 1) := by decide +kernel
theorem dX8_keep_67 : decode cX8_keep 67 = .ok (.aload_n 0, 1) := by decide +kernel
theorem dX8_keep_68 : decode cX8_keep 68 = .ok (.iconst 0, 1) := by decide +kernel
theorem dX8_keep_69 : decode cX8_keep 69 = .ok (.putfield 163, 3) := by decide +kernel
theorem dX8_keep_72 : decode cX8_keep 72 = .ok (.iconst 1, 1) := by decide +kernel
theorem dX8_keep_73 : decode cX8_keep 73 = .ok (.ireturn, 1) := by decide +kernel
set_option maxRecDepth 20000 in
theorem ggX8_goBack_X8_in : GoodIn wsX8_goBack wsX8_in := goodIn_r _ [11] (by decide +kernel) (by decide +kernel)
set_option maxRecDepth 20000 in
theorem gX8_goBack_X8_in : GoodIn wsX8_goBack (va_wsS RX8 97 yX8_in wsX8_in) := goodIn_app (goodIn_of _ (by decide +kernel)) ggX8_goBack_X8_in
theorem dX8_goBack_0 : decode cX8_goBack 0 = .ok (.iload_n 1, 1) := by decide +kernel
theorem dX8_goBack_1 : decode cX8_goBack 1 = .ok (.i2l, 1) := by decide +kernel
theorem dX8_goBack_2 : decode cX8_goBack 2 = .ok (.lconst 0, 1) := by decide +kernel
theorem dX8_goBack_3 : decode cX8_goBack 3 = .ok (.lconst 1, 1) := by decide +kernel
theorem dX8_goBack_4 : decode cX8_goBack 4 = .ok (.invokestatic 97, 3) := by decide +kernel
theorem dX8_goBack_7 : decode cX8_goBack 7 = .ok (.ifCond .ne 6, 3) := by decide +kernel
theorem dX8_goBack_10 : decode cX8_goBack 10 = .ok (.ldc 190, 2) := by decide +kernel
theorem dX8_goBack_12 : decode cX8_goBack 12 = .ok (.ireturn, 1) := by decide +kernel
theorem dX8_goBack_13 : decode cX8_goBack 13 = .ok (.aload_n 0, 1) := by decide +kernel
theorem dX8_goBack_14 : decode cX8_goBack 14 = .ok (.getfield 87, 3) := by decide +kernel
theorem dX8_goBack_17 : decode cX8_goBack 17 = .ok (.iload_n 1, 1) := by decide +kernel
theorem dX8_goBack_18 : decode cX8_goBack 18 = .ok (.baload, 1) := by decide +kernel
theorem dX8_goBack_19 : decode cX8_goBack 19 = .ok (.ifCond .ne 6, 3) := by decide +kernel
theorem dX8_goBack_22 : decode cX8_goBack 22 = .ok (.ldc 203, 2) := by decide +kernel
theorem dX8_goBack_24 : decode cX8_goBack 24 = .ok (.ireturn, 1) := by decide +kernel
theorem dX8_goBack_25 : decode cX8_goBack 25 = .ok (.iconst 0, 1) := by decide +kernel
theorem dX8_goBack_26 : decode cX8_goBack 26 = .ok (.istore_n 2, 1) := by decide +kernel
theorem dX8_goBack_27 : decode cX8_goBack 27 = .ok (.iload_n 2, 1) := by decide +kernel
theorem dX8_goBack_28 : decode cX8_goBack 28 = .ok (.bipush 13, 2) := by decide +kernel
theorem dX8_goBack_30 : decode cX8_goBack 30 = .ok (.if_icmp .ge 26, 3) := by decide +kernel
theorem dX8_goBack_33 : decode cX8_goBack 33 = .ok (.aload_n 0, 1) := by decide +kernel
theorem dX8_goBack_34 : decode cX8_goBack 34 = .ok (.getfield 28, 3) := by decide +kernel
theorem dX8_goBack_37 : decode cX8_goBack 37 = .ok (.iload_n 2, 1) := by decide +kernel
theorem dX8_goBack_38 : decode cX8_goBack 38 = .ok (.aload_n 0, 1) := by decide +kernel
theorem dX8_goBack_39 : decode cX8_goBack 39 = .ok (.getfield 84, 3) := by decide +kernel
theorem dX8_goBack_42 : decode cX8_goBack 42 = .ok (.bipush 14, 2) := by decide +kernel
theorem dX8_goBack_44 : decode cX8_goBack 44 = .ok (.iload_n 1, 1) := by decide +kernel
theorem dX8_goBack_45 : decode cX8_goBack 45 = .ok (.imul, 1) := by decide +kernel
theorem dX8_goBack_46 : decode cX8_goBack 46 = .ok (.iload_n 2, 1) := by decide +kernel
theorem dX8_goBack_47 : decode cX8_goBack 47 = .ok (.iadd, 1) := by decide +kernel
theorem dX8_goBack_48 : decode cX8_goBack 48 = .ok (.iaload, 1) := by decide +kernel
theorem dX8_goBack_49 : decode cX8_goBack 49 = .ok (.iastore, 1) := by decide +kernel
theorem dX8_goBack_50 : decode cX8_goBack 50 = .ok (.iinc 2 1, 3) := by decide +kernel
theorem dX8_goBack_53 : decode cX8_goBack 53 = .ok (.goto (-26), 3) := by decide +kernel
theorem dX8_goBack_56 : decode cX8_goBack 56 = .ok (.aload_n 0, 1) := by decide +kernel
theorem dX8_goBack_57 : decode cX8_goBack 57 = .ok (.aload_n 0, 1) := by decide +kernel
theorem dX8_goBack_58 : decode cX8_goBack 58 = .ok (.getfield 84, 3) := by decide +kernel
theorem dX8_goBack_61 : decode cX8_goBack 61 = .ok (.bipush 14, 2) := by decide +kernel
theorem dX8_goBack_63 : decode cX8_goBack 63 = .ok (.iload_n 1, 1) := by decide +kernel
theorem dX8_goBack_64 : decode cX8_goBack 64 = .ok (.imul, 1) := by decide +kernel
theorem dX8_goBack_65 : decode cX8_goBack 65 = .ok (.bipush 13, 2) := by decide +kernel
theorem dX8_goBack_67 : decode cX8_goBack 67 = .ok (.iadd, 1) := by decide +kernel
theorem dX8_goBack_68 : decode cX8_goBack 68 = .ok (.iaload, 1) := by decide +kernel
theorem dX8_goBack_69 : decode cX8_goBack 69 = .ok (.putfield 216, 3) := by decide +kernel
theorem dX8_goBack_72 : decode cX8_goBack 72 = .ok (.aload_n 0, 1) := by decide +kernel
theorem dX8_goBack_73 : decode cX8_goBack 73 = .ok (.iconst 0, 1) := by decide +kernel
theorem dX8_goBack_74 : decode cX8_goBack 74 = .ok (.putfield 163, 3) := by decide +kernel
theorem dX8_goBack_77 : decode cX8_goBack 77 = .ok (.iconst 1, 1) := by decide +kernel
theorem dX8_goBack_78 : decode cX8_goBack 78 = .ok (.ireturn, 1) := by decide +kernel
