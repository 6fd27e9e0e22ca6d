theorem dX0_init_9 : decode cX0_init 9 = .ok (.putfield 9, 3) := by decide +kernel
theorem dX0_init_12 : decode cX0_init 12 = .ok (.aload_n 0, 1) := by decide +kernel
theorem dX0_init_13 : decode cX0_init 13 = .ok (.bipush 15, 2) := by decide +kernel
theorem dX0_init_15 : decode cX0_init 15 = .ok (.newarray .int, 2) := by decide +kernel
theorem dX0_init_17 : decode cX0_init 17 = .ok (.putfield 15, 3) := by decide +kernel
theorem dX0_init_20 : decode cX0_init 20 = .ok (.aload_n 0, 1) := by decide +kernel
theorem dX0_init_21 : decode cX0_init 21 = .ok (.iconst 0, 1) := by decide +kernel
theorem dX0_init_22 : decode cX0_init 22 = .ok (.putfield 18, 3) := by decide +kernel
theorem dX0_init_25 : decode cX0_init 25 = .ok (.return_, 1) := by decide +kernel
set_option maxRecDepth 20000 in
theorem ggX0_add_X7_put : GoodIn wsX0_add wsX7_put := goodIn_r _ [6] (by decide +kernel) (by decide +kernel)
set_option maxRecDepth 20000 in
theorem gX0_add_X7_put_n22 : GoodIn wsX0_add (wsX7_put) := ggX0_add_X7_put
theorem dX0_add_0 : decode cX0_add 0 = .ok (.aload_n 0, 1) := by decide +kernel
theorem dX0_add_1 : decode cX0_add 1 = .ok (.getfield 18, 3) := by decide +kernel
theorem dX0_add_4 : decode cX0_add 4 = .ok (.bipush 15, 2) := by decide +kernel
theorem dX0_add_6 : decode cX0_add 6 = .ok (.if_icmp .lt 5, 3) := by decide +kernel
theorem dX0_add_9 : decode cX0_add 9 = .ok (.iconst 0, 1) := by decide +kernel
theorem dX0_add_10 : decode cX0_add 10 = .ok (.ireturn, 1) := by decide +kernel
theorem dX0_add_11 : decode cX0_add 11 = .ok (.aload_n 0, 1) := by decide +kernel
theorem dX0_add_12 : decode cX0_add 12 = .ok (.getfield 9, 3) := by decide +kernel
theorem dX0_add_15 : decode cX0_add 15 = .ok (.aload_n 0, 1) := by decide +kernel
theorem dX0_add_16 : decode cX0_add 16 = .ok (.getfield 18, 3) := by decide +kernel
theorem dX0_add_19 : decode cX0_add 19 = .ok (.iload_n 1, 1) := by decide +kernel
theorem dX0_add_20 : decode cX0_add 20 = .ok (.invokestatic 22, 3) := by decide +kernel
theorem dX0_add_23 : decode cX0_add 23 = .ok (.aload_n 0, 1) := by decide +kernel
theorem dX0_add_24 : decode cX0_add 24 = .ok (.getfield 15, 3) := by decide +kernel
theorem dX0_add_27 : decode cX0_add 27 = .ok (.aload_n 0, 1) := by decide +kernel
theorem dX0_add_28 : decode cX0_add 28 = .ok (.getfield 18, 3) := by decide +kernel
theorem dX0_add_31 : decode cX0_add 31 = .ok (.iload_n 2, 1) := by decide +kernel
theorem dX0_add_32 : decode cX0_add 32 = .ok (.invokestatic 22, 3) := by decide +kernel
theorem dX0_add_35 : decode cX0_add 35 = .ok (.aload_n 0, 1) := by decide +kernel
theorem dX0_add_36 : decode cX0_add 36 = .ok (.dup, 1) := by decide +kernel
theorem dX0_add_37 : decode cX0_add 37 = .ok (.getfield 18, 3) := by decide +kernel
theorem dX0_add_40 : decode cX0_add 40 = .ok (.iconst 1, 1) := by decide +kernel
theorem dX0_add_41 : decode cX0_add 41 = .ok (.iadd, 1) := by decide +kernel
theorem dX0_add_42 : decode cX0_add 42 = .ok (.putfield 18, 3) := by decide +kernel
theorem dX0_add_45 : decode cX0_add 45 = .ok (.iconst 1, 1) := by decide +kernel
theorem dX0_add_46 : decode cX0_add 46 = .ok (.ireturn, 1) := by decide +kernel
set_option maxRecDepth 20000 in
theorem ggX0_firstWrong_X7_at : GoodIn wsX0_firstWrong wsX7_at := goodIn_r _ [7] (by decide +kernel) (by decide +kernel)
set_option maxRecDepth 20000 in
theorem gX0_firstWrong_X7_at_n26 : GoodIn wsX0_firstWrong (wsX7_at) := ggX0_firstWrong_X7_at
set_option maxRecDepth 20000 in
theorem ggX0_firstWrong_X1_has : GoodIn wsX0_firstWrong wsX1_has := goodIn_r _ [12, 13, 17, 18, 19, 20, 21, 22] (by decide +kernel) (by decide +kernel)
set_option maxRecDepth 20000 in
theorem gX0_firstWrong_X1_has : GoodIn wsX0_firstWrong (wsV RX0 30 RX1 yX1_has wsX1_has) := goodIn_app (goodIn_of _ (by decide +kernel)) ggX0_firstWrong_X1_has
theorem dX0_firstWrong_0 : decode cX0_firstWrong 0 = .ok (.iconst 0, 1) := by decide +kernel
theorem dX0_firstWrong_1 : decode cX0_firstWrong 1 = .ok (.istore_n 2, 1) := by decide +kernel
theorem dX0_firstWrong_2 : decode cX0_firstWrong 2 = .ok (.iload_n 2, 1) := by decide +kernel
theorem dX0_firstWrong_3 : decode cX0_firstWrong 3 = .ok (.aload_n 0, 1) := by decide +kernel
theorem dX0_firstWrong_4 : decode cX0_firstWrong 4 = .ok (.getfield 18, 3) := by decide +kernel
theorem dX0_firstWrong_7 : decode cX0_firstWrong 7 = .ok (.if_icmp .ge 47, 3) := by decide +kernel
theorem dX0_firstWrong_10 : decode cX0_firstWrong 10 = .ok (.aload_n 0, 1) := by decide +kernel
theorem dX0_firstWrong_11 : decode cX0_firstWrong 11 = .ok (.getfield 9, 3) := by decide +kernel
theorem dX0_firstWrong_14 : decode cX0_firstWrong 14 = .ok (.iload_n 2, 1) := by decide +kernel
theorem dX0_firstWrong_15 : decode cX0_firstWrong 15 = .ok (.invokestatic 26, 3) := by decide +kernel
theorem dX0_firstWrong_18 : decode cX0_firstWrong 18 = .ok (.istore_n 3, 1) := by decide +kernel
theorem dX0_firstWrong_19 : decode cX0_firstWrong 19 = .ok (.aload_n 1, 1) := by decide +kernel
theorem dX0_firstWrong_20 : decode cX0_firstWrong 20 = .ok (.iload_n 3, 1) := by decide +kernel
theorem dX0_firstWrong_21 : decode cX0_firstWrong 21 = .ok (.invokevirtual 30, 3) := by decide +kernel
theorem dX0_firstWrong_24 : decode cX0_firstWrong 24 = .ok (.ifCond .eq 22, 3) := by decide +kernel
theorem dX0_firstWrong_27 : decode cX0_firstWrong 27 = .ok (.aload_n 1, 1) := by decide +kernel
theorem dX0_firstWrong_28 : decode cX0_firstWrong 28 = .ok (.getfield 36, 3) := by decide +kernel
theorem dX0_firstWrong_31 : decode cX0_firstWrong 31 = .ok (.iload_n 3, 1) := by decide +kernel
theorem dX0_firstWrong_32 : decode cX0_firstWrong 32 = .ok (.invokestatic 26, 3) := by decide +kernel
theorem dX0_firstWrong_35 : decode cX0_firstWrong 35 = .ok (.aload_n 0, 1) := by decide +kernel
theorem dX0_firstWrong_36 : decode cX0_firstWrong 36 = .ok (.getfield 15, 3) := by decide +kernel
theorem dX0_firstWrong_39 : decode cX0_firstWrong 39 = .ok (.iload_n 2, 1) := by decide +kernel
theorem dX0_firstWrong_40 : decode cX0_firstWrong 40 = .ok (.invokestatic 26, 3) := by decide +kernel
theorem dX0_firstWrong_43 : decode cX0_firstWrong 43 = .ok (.if_icmp .eq 5, 3) := by decide +kernel
theorem dX0_firstWrong_46 : decode cX0_firstWrong 46 = .ok (.iload_n 2, 1) := by decide +kernel
theorem dX0_firstWrong_47 : decode cX0_firstWrong 47 = .ok (.ireturn, 1) := by decide +kernel
theorem dX0_firstWrong_48 : decode cX0_firstWrong 48 = .ok (.iinc 2 1, 3) := by decide +kernel
theorem dX0_firstWrong_51 : decode cX0_firstWrong 51 = .ok (.goto (-49), 3) := by decide +kernel
theorem dX0_firstWrong_54 : decode cX0_firstWrong 54 = .ok (.iconst (-1), 1) := by decide +kernel
theorem dX0_firstWrong_55 : decode cX0_firstWrong 55 = .ok (.ireturn, 1) := by decide +kernel
theorem dX1_init_0 : decode cX1_init 0 = .ok (.aload_n 0, 1) := by decide +kernel
theorem dX1_init_1 : decode cX1_init 1 = .ok (.invokespecial 3, 3) := by decide +kernel
theorem dX1_init_4 : decode cX1_init 4 = .ok (.aload_n 0, 1) := by decide +kernel
theorem dX1_init_5 : decode cX1_init 5 = .ok (.bipush 8, 2) := by decide +kernel
theorem dX1_init_7 : decode cX1_init 7 = .ok (.newarray .int, 2) := by decide +kernel
theorem dX1_init_9 : decode cX1_init 9 = .ok (.putfield 9, 3) := by decide +kernel
theorem dX1_init_12 : decode cX1_init 12 = .ok (.aload_n 0, 1) := by decide +kernel
theorem dX1_init_13 : decode cX1_init 13 = .ok (.iconst 0, 1) := by decide +kernel
theorem dX1_init_14 : decode cX1_init 14 = .ok (.putfield 15, 3) := by decide +kernel
theorem dX1_init_17 : decode cX1_init 17 = .ok (.aload_n 0, 1) := by decide +kernel
theorem dX1_init_18 : decode cX1_init 18 = .ok (.iconst 0, 1) := by decide +kernel
theorem dX1_init_19 : decode cX1_init 19 = .ok (.putfield 19, 3) := by decide +kernel
theorem dX1_init_22 : decode cX1_init 22 = .ok (.aload_n 0, 1) := by decide +kernel
theorem dX1_init_23 : decode cX1_init 23 = .ok (.iconst 0, 1) := by decide +kernel
theorem dX1_init_24 : decode cX1_init 24 = .ok (.putfield 22, 3) := by decide +kernel
theorem dX1_init_27 : decode cX1_init 27 = .ok (.aload_n 0, 1) := by decide +kernel
theorem dX1_init_28 : decode cX1_init 28 = .ok (.iconst 0, 1) := by decide +kernel
theorem dX1_init_29 : decode cX1_init 29 = .ok (.putfield 25, 3) := by decide +kernel
theorem dX1_init_32 : decode cX1_init 32 = .ok (.aload_n 0, 1) := by decide +kernel
theorem dX1_init_33 : decode cX1_init 33 = .ok (.iconst 0, 1) := by decide +kernel
theorem dX1_init_34 : decode cX1_init 34 = .ok (.putfield 28, 3) := by decide +kernel
theorem dX1_init_37 : decode cX1_init 37 = .ok (.return_, 1) := by decide +kernel
set_option maxRecDepth 20000 in
theorem ggX1_begin_X1_takeMarks : GoodIn wsX1_begin wsX1_takeMarks := goodIn_r _ [12, 13, 14, 15, 16, 17, 18, 29, 30, 31, 32, 33, 34] (by decide +kernel) (by decide +kernel)
set_option maxRecDepth 20000 in
theorem gX1_begin_X1_takeMarks : GoodIn wsX1_begin (wsV RX1 34 RX1 yX1_takeMarks wsX1_takeMarks) := goodIn_app (goodIn_of _ (by decide +kernel)) ggX1_begin_X1_takeMarks
theorem dX1_begin_0 : decode cX1_begin 0 = .ok (.aload_n 0, 1) := by decide +kernel
theorem dX1_begin_1 : decode cX1_begin 1 = .ok (.aload_n 1, 1) := by decide +kernel
theorem dX1_begin_2 : decode cX1_begin 2 = .ok (.getfield 31, 3) := by decide +kernel
theorem dX1_begin_5 : decode cX1_begin 5 = .ok (.invokevirtual 34, 3) := by decide +kernel
theorem dX1_begin_8 : decode cX1_begin 8 = .ok (.aload_n 0, 1) := by decide +kernel
theorem dX1_begin_9 : decode cX1_begin 9 = .ok (.aload_n 1, 1) := by decide +kernel
theorem dX1_begin_10 : decode cX1_begin 10 = .ok (.getfield 38, 3) := by decide +kernel
theorem dX1_begin_13 : decode cX1_begin 13 = .ok (.putfield 15, 3) := by decide +kernel
theorem dX1_begin_16 : decode cX1_begin 16 = .ok (.aload_n 0, 1) := by decide +kernel
theorem dX1_begin_17 : decode cX1_begin 17 = .ok (.iconst 1, 1) := by decide +kernel
theorem dX1_begin_18 : decode cX1_begin 18 = .ok (.aload_n 1, 1) := by decide +kernel
theorem dX1_begin_19 : decode cX1_begin 19 = .ok (.getfield 38, 3) := by decide +kernel
theorem dX1_begin_22 : decode cX1_begin 22 = .ok (.ishl, 1) := by decide +kernel
theorem dX1_begin_23 : decode cX1_begin 23 = .ok (.iconst 1, 1) := by decide +kernel
theorem dX1_begin_24 : decode cX1_begin 24 = .ok (.isub, 1) := by decide +kernel
theorem dX1_begin_25 : decode cX1_begin 25 = .ok (.putfield 19, 3) := by decide +kernel
theorem dX1_begin_28 : decode cX1_begin 28 = .ok (.aload_n 0, 1) := by decide +kernel
theorem dX1_begin_29 : decode cX1_begin 29 = .ok (.iconst 0, 1) := by decide +kernel
theorem dX1_begin_30 : decode cX1_begin 30 = .ok (.putfield 22, 3) := by decide +kernel
theorem dX1_begin_33 : decode cX1_begin 33 = .ok (.aload_n 0, 1) := by decide +kernel
theorem dX1_begin_34 : decode cX1_begin 34 = .ok (.iconst 0, 1) := by decide +kernel
theorem dX1_begin_35 : decode cX1_begin 35 = .ok (.putfield 25, 3) := by decide +kernel
theorem dX1_begin_38 : decode cX1_begin 38 = .ok (.aload_n 0, 1) := by decide +kernel
theorem dX1_begin_39 : decode cX1_begin 39 = .ok (.iconst 0, 1) := by decide +kernel
theorem dX1_begin_40 : decode cX1_begin 40 = .ok (.putfield 28, 3) := by decide +kernel
theorem dX1_begin_43 : decode cX1_begin 43 = .ok (.return_, 1) := by decide +kernel
set_option maxRecDepth 20000 in
theorem ggX1_become_X1_takeMarks : GoodIn wsX1_become wsX1_takeMarks := goodIn_r _ [11, 1, 12, 13, 14, 15, 16, 17, 18, 19, 20, 21, 22] (by decide +kernel) (by decide +kernel)
set_option maxRecDepth 20000 in
theorem gX1_become_X1_takeMarks : GoodIn wsX1_become (wsV RX1 34 RX1 yX1_takeMarks wsX1_takeMarks) := goodIn_app (goodIn_of _ (by decide +kernel)) ggX1_become_X1_takeMarks
theorem dX1_become_0 : decode cX1_become 0 = .ok (.aload_n 0, 1) := by decide +kernel
theorem dX1_become_1 : decode cX1_become 1 = .ok (.aload_n 1, 1) := by decide +kernel
theorem dX1_become_2 : decode cX1_become 2 = .ok (.getfield 9, 3) := by decide +kernel
theorem dX1_become_5 : decode cX1_become 5 = .ok (.invokevirtual 34, 3) := by decide +kernel
theorem dX1_become_8 : decode cX1_become 8 = .ok (.aload_n 0, 1) := by decide +kernel
theorem dX1_become_9 : decode cX1_become 9 = .ok (.aload_n 1, 1) := by decide +kernel
theorem dX1_become_10 : decode cX1_become 10 = .ok (.getfield 15, 3) := by decide +kernel
theorem dX1_become_13 : decode cX1_become 13 = .ok (.putfield 15, 3) := by decide +kernel
theorem dX1_become_16 : decode cX1_become 16 = .ok (.aload_n 0, 1) := by decide +kernel
theorem dX1_become_17 : decode cX1_become 17 = .ok (.aload_n 1, 1) := by decide +kernel
theorem dX1_become_18 : decode cX1_become 18 = .ok (.getfield 19, 3) := by decide +kernel
theorem dX1_become_21 : decode cX1_become 21 = .ok (.putfield 19, 3) := by decide +kernel
theorem dX1_become_24 : decode cX1_become 24 = .ok (.aload_n 0, 1) := by decide +kernel
theorem dX1_become_25 : decode cX1_become 25 = .ok (.aload_n 1, 1) := by decide +kernel
theorem dX1_become_26 : decode cX1_become 26 = .ok (.getfield 22, 3) := by decide +kernel
theorem dX1_become_29 : decode cX1_become 29 = .ok (.putfield 22, 3) := by decide +kernel
theorem dX1_become_32 : decode cX1_become 32 = .ok (.aload_n 0, 1) := by decide +kernel
theorem dX1_become_33 : decode cX1_become 33 = .ok (.aload_n 1, 1) := by decide +kernel
theorem dX1_become_34 : decode cX1_become 34 = .ok (.getfield 25, 3) := by decide +kernel
theorem dX1_become_37 : decode cX1_become 37 = .ok (.putfield 25, 3) := by decide +kernel
theorem dX1_become_40 : decode cX1_become 40 = .ok (.aload_n 0, 1) := by decide +kernel
theorem dX1_become_41 : decode cX1_become 41 = .ok (.aload_n 1, 1) := by decide +kernel
theorem dX1_become_42 : decode cX1_become 42 = .ok (.getfield 28, 3) := by decide +kernel
theorem dX1_become_45 : decode cX1_become 45 = .ok (.putfield 28, 3) := by decide +kernel
theorem dX1_become_48 : decode cX1_become 48 = .ok (.return_, 1) := by decide +kernel
set_option maxRecDepth 20000 in
theorem ggX1_takeMarks_X7_at : GoodIn wsX1_takeMarks wsX7_at := goodIn_r _ [4] (by decide +kernel) (by decide +kernel)
set_option maxRecDepth 20000 in
theorem gX1_takeMarks_X7_at_n39 : GoodIn wsX1_takeMarks (wsX7_at) := ggX1_takeMarks_X7_at
set_option maxRecDepth 20000 in
theorem ggX1_takeMarks_X7_put : GoodIn wsX1_takeMarks wsX7_put := goodIn_r _ [6] (by decide +kernel) (by decide +kernel)
set_option maxRecDepth 20000 in
theorem gX1_takeMarks_X7_put_n43 : GoodIn wsX1_takeMarks (wsX7_put) := ggX1_takeMarks_X7_put
theorem dX1_takeMarks_0 : decode cX1_takeMarks 0 = .ok (.iconst 0, 1) := by decide +kernel
theorem dX1_takeMarks_1 : decode cX1_takeMarks 1 = .ok (.istore_n 2, 1) := by decide +kernel
theorem dX1_takeMarks_2 : decode cX1_takeMarks 2 = .ok (.iload_n 2, 1) := by decide +kernel
theorem dX1_takeMarks_3 : decode cX1_takeMarks 3 = .ok (.bipush 8, 2) := by decide +kernel
theorem dX1_takeMarks_5 : decode cX1_takeMarks 5 = .ok (.if_icmp .ge 22, 3) := by decide +kernel
theorem dX1_takeMarks_8 : decode cX1_takeMarks 8 = .ok (.aload_n 0, 1) := by decide +kernel
theorem dX1_takeMarks_9 : decode cX1_takeMarks 9 = .ok (.getfield 9, 3) := by decide +kernel
theorem dX1_takeMarks_12 : decode cX1_takeMarks 12 = .ok (.iload_n 2, 1) := by decide +kernel
theorem dX1_takeMarks_13 : decode cX1_takeMarks 13 = .ok (.aload_n 1, 1) := by decide +kernel
theorem dX1_takeMarks_14 : decode cX1_takeMarks 14 = .ok (.iload_n 2, 1) := by decide +kernel
theorem dX1_takeMarks_15 : decode cX1_takeMarks 15 = .ok (.invokestatic 39, 3) := by decide +kernel
theorem dX1_takeMarks_18 : decode cX1_takeMarks 18 = .ok (.invokestatic 43, 3) := by decide +kernel
theorem dX1_takeMarks_21 : decode cX1_takeMarks 21 = .ok (.iinc 2 1, 3) := by decide +kernel
theorem dX1_takeMarks_24 : decode cX1_takeMarks 24 = .ok (.goto (-22), 3) := by decide +kernel
theorem dX1_takeMarks_27 : decode cX1_takeMarks 27 = .ok (.return_, 1) := by decide +kernel
theorem dX1_has_0 : decode cX1_has 0 = .ok (.iload_n 1, 1) := by decide +kernel
theorem dX1_has_1 : decode cX1_has 1 = .ok (.ifCond .lt 15, 3) := by decide +kernel
theorem dX1_has_4 : decode cX1_has 4 = .ok (.iload_n 1, 1) := by decide +kernel
theorem dX1_has_5 : decode cX1_has 5 = .ok (.aload_n 0, 1) := by decide +kernel
theorem dX1_has_6 : decode cX1_has 6 = .ok (.getfield 15, 3) := by decide +kernel
theorem dX1_has_9 : decode cX1_has 9 = .ok (.if_icmp .ge 7, 3) := by decide +kernel
theorem dX1_has_12 : decode cX1_has 12 = .ok (.iconst 1, 1) := by decide +kernel
theorem dX1_has_13 : decode cX1_has 13 = .ok (.goto 4, 3) := by decide +kernel
theorem dX1_has_16 : decode cX1_has 16 = .ok (.iconst 0, 1) := by decide +kernel
theorem dX1_has_17 : decode cX1_has 17 = .ok (.ireturn, 1) := by decide +kernel
set_option maxRecDepth 20000 in
theorem ggX1_lives_X7_holds : GoodIn wsX1_lives wsX7_holds := goodIn_r _ [4] (by decide +kernel) (by decide +kernel)
set_option maxRecDepth 20000 in
theorem gX1_lives_X7_holds_n47 : GoodIn wsX1_lives (wsX7_holds) := ggX1_lives_X7_holds
theorem dX1_lives_0 : decode cX1_lives 0 = .ok (.aload_n 0, 1) := by decide +kernel
theorem dX1_lives_1 : decode cX1_lives 1 = .ok (.getfield 19, 3) := by decide +kernel
theorem dX1_lives_4 : decode cX1_lives 4 = .ok (.iload_n 1, 1) := by decide +kernel
theorem dX1_lives_5 : decode cX1_lives 5 = .ok (.invokestatic 47, 3) := by decide +kernel
theorem dX1_lives_8 : decode cX1_lives 8 = .ok (.ireturn, 1) := by decide +kernel
set_option maxRecDepth 20000 in
theorem ggX1_aheadOf_J6_bitCount_0f7a4 : GoodIn wsX1_aheadOf wsJ6_bitCount_0f7a4 := goodIn_r _ [5, 6, 7, 8] (by decide +kernel) (by decide +kernel)
set_option maxRecDepth 20000 in
theorem gX1_aheadOf_J6_bitCount_0f7a4 : GoodIn wsX1_aheadOf (va_wsS RX1 51 yJ6_bitCount_0f7a4 wsJ6_bitCount_0f7a4) := goodIn_app (goodIn_of _ (by decide +kernel)) ggX1_aheadOf_J6_bitCount_0f7a4
theorem dX1_aheadOf_0 : decode cX1_aheadOf 0 = .ok (.aload_n 0, 1) := by decide +kernel
theorem dX1_aheadOf_1 : decode cX1_aheadOf 1 = .ok (.getfield 19, 3) := by decide +kernel
theorem dX1_aheadOf_4 : decode cX1_aheadOf 4 = .ok (.iconst 1, 1) := by decide +kernel
theorem dX1_aheadOf_5 : decode cX1_aheadOf 5 = .ok (.iload_n 1, 1) := by decide +kernel
theorem dX1_aheadOf_6 : decode cX1_aheadOf 6 = .ok (.ishl, 1) := by decide +kernel
theorem dX1_aheadOf_7 : decode cX1_aheadOf 7 = .ok (.iconst 1, 1) := by decide +kernel
theorem dX1_aheadOf_8 : decode cX1_aheadOf 8 = .ok (.isub, 1) := by decide +kernel
theorem dX1_aheadOf_9 : decode cX1_aheadOf 9 = .ok (.iand, 1) := by decide +kernel
theorem dX1_aheadOf_10 : decode cX1_aheadOf 10 = .ok (.invokestatic 51, 3) := by decide +kernel
theorem dX1_aheadOf_13 : decode cX1_aheadOf 13 = .ok (.ireturn, 1) := by decide +kernel
set_option maxRecDepth 20000 in
theorem ggX1_seenBy_X1_lives : GoodIn wsX1_seenBy wsX1_lives := goodIn_r _ [5, 6, 7, 8, 9, 20, 21, 22, 23, 24, 25] (by decide +kernel) (by decide +kernel)
set_option maxRecDepth 20000 in
theorem gX1_seenBy_X1_lives : GoodIn wsX1_seenBy (wsV RX1 57 RX1 yX1_lives wsX1_lives) := goodIn_app (goodIn_of _ (by decide +kernel)) ggX1_seenBy_X1_lives
set_option maxRecDepth 20000 in
theorem ggX1_seenBy_X2_goesOut : GoodIn wsX1_seenBy wsX2_goesOut := goodIn_r _ [14, 15, 16, 17, 18, 8, 19, 7, 9, 26, 27, 28, 29, 30, 31, 32, 33, 34, 35] (by decide +kernel) (by decide +kernel)
set_option maxRecDepth 20000 in
theorem gX1_seenBy_X2_goesOut : GoodIn wsX1_seenBy (wsV RX1 61 RX2 yX2_goesOut wsX2_goesOut) := goodIn_app (goodIn_of _ (by decide +kernel)) ggX1_seenBy_X2_goesOut
theorem dX1_seenBy_0 : decode cX1_seenBy 0 = .ok (.iconst 0, 1) := by decide +kernel
theorem dX1_seenBy_1 : decode cX1_seenBy 1 = .ok (.istore 5, 2) := by decide +kernel
theorem dX1_seenBy_3 : decode cX1_seenBy 3 = .ok (.iload 5, 2) := by decide +kernel
theorem dX1_seenBy_5 : decode cX1_seenBy 5 = .ok (.bipush 8, 2) := by decide +kernel
theorem dX1_seenBy_7 : decode cX1_seenBy 7 = .ok (.if_icmp .ge 34, 3) := by decide +kernel
theorem dX1_seenBy_10 : decode cX1_seenBy 10 = .ok (.aload_n 0, 1) := by decide +kernel
theorem dX1_seenBy_11 : decode cX1_seenBy 11 = .ok (.iload 5, 2) := by decide +kernel
theorem dX1_seenBy_13 : decode cX1_seenBy 13 = .ok (.invokevirtual 57, 3) := by decide +kernel
theorem dX1_seenBy_16 : decode cX1_seenBy 16 = .ok (.ifCond .eq 19, 3) := by decide +kernel
theorem dX1_seenBy_19 : decode cX1_seenBy 19 = .ok (.aload_n 1, 1) := by decide +kernel
theorem dX1_seenBy_20 : decode cX1_seenBy 20 = .ok (.iload 5, 2) := by decide +kernel
theorem dX1_seenBy_22 : decode cX1_seenBy 22 = .ok (.iload_n 2, 1) := by decide +kernel
theorem dX1_seenBy_23 : decode cX1_seenBy 23 = .ok (.iload_n 3, 1) := by decide +kernel
theorem dX1_seenBy_24 : decode cX1_seenBy 24 = .ok (.iload 4, 2) := by decide +kernel
theorem dX1_seenBy_26 : decode cX1_seenBy 26 = .ok (.invokevirtual 61, 3) := by decide +kernel
theorem dX1_seenBy_29 : decode cX1_seenBy 29 = .ok (.ifCond .eq 6, 3) := by decide +kernel
theorem dX1_seenBy_32 : decode cX1_seenBy 32 = .ok (.iload 5, 2) := by decide +kernel
theorem dX1_seenBy_34 : decode cX1_seenBy 34 = .ok (.ireturn, 1) := by decide +kernel
theorem dX1_seenBy_35 : decode cX1_seenBy 35 = .ok (.iinc 5 1, 3) := by decide +kernel
theorem dX1_seenBy_38 : decode cX1_seenBy 38 = .ok (.goto (-35), 3) := by decide +kernel
theorem dX1_seenBy_41 : decode cX1_seenBy 41 = .ok (.iconst (-1), 1) := by decide +kernel
theorem dX1_seenBy_42 : decode cX1_seenBy 42 = .ok (.ireturn, 1) := by decide +kernel
set_option maxRecDepth 20000 in
theorem ggX1_seenOn_X2_weatherOn : GoodIn wsX1_seenOn wsX2_weatherOn := goodIn_r _ [5, 6, 7, 8, 9, 4, 10, 11, 12, 13, 14, 44, 45, 46, 47, 48, 49, 50, 51, 52, 53] (by decide +kernel) (by decide +kernel)
set_option maxRecDepth 20000 in
theorem gX1_seenOn_X2_weatherOn : GoodIn wsX1_seenOn (wsV RX1 65 RX2 yX2_weatherOn wsX2_weatherOn) := goodIn_app (goodIn_of _ (by decide +kernel)) ggX1_seenOn_X2_weatherOn
set_option maxRecDepth 20000 in
theorem ggX1_seenOn_X2_hourOn : GoodIn wsX1_seenOn wsX2_hourOn := goodIn_r _ [18, 19, 7, 8, 9, 4, 10, 11, 12, 13, 14, 44, 45, 46, 47, 48, 49, 50, 51, 52, 53] (by decide +kernel) (by decide +kernel)
set_option maxRecDepth 20000 in
theorem gX1_seenOn_X2_hourOn : GoodIn wsX1_seenOn (wsV RX1 68 RX2 yX2_hourOn wsX2_hourOn) := goodIn_app (goodIn_of _ (by decide +kernel)) ggX1_seenOn_X2_hourOn
set_option maxRecDepth 20000 in
theorem ggX1_seenOn_X2_dangerOn : GoodIn wsX1_seenOn wsX2_dangerOn := goodIn_r _ [23, 24, 7, 8, 9, 4, 10, 11, 12, 13, 14, 44, 45, 46, 47, 48, 49, 50, 51, 52, 53] (by decide +kernel) (by decide +kernel)
set_option maxRecDepth 20000 in
theorem gX1_seenOn_X2_dangerOn : GoodIn wsX1_seenOn (wsV RX1 71 RX2 yX2_dangerOn wsX2_dangerOn) := goodIn_app (goodIn_of _ (by decide +kernel)) ggX1_seenOn_X2_dangerOn
set_option maxRecDepth 20000 in
theorem ggX1_seenOn_X1_seenBy : GoodIn wsX1_seenOn wsX1_seenBy := goodIn_r _ [29, 30, 31, 32, 28, 33, 34, 35, 13, 36, 37, 38, 39, 4, 40, 41, 42, 43, 12, 14, 54, 55, 56, 57, 58, 59, 44, 45, 46, 47, 48, 49, 50, 51, 52, 53] (by decide +kernel) (by decide +kernel)
set_option maxRecDepth 20000 in
theorem gX1_seenOn_X1_seenBy : GoodIn wsX1_seenOn (wsV RX1 74 RX1 yX1_seenBy wsX1_seenBy) := goodIn_app (goodIn_of _ (by decide +kernel)) ggX1_seenOn_X1_seenBy
theorem dX1_seenOn_0 : decode cX1_seenOn 0 = .ok (.aload_n 0, 1) := by decide +kernel
theorem dX1_seenOn_1 : decode cX1_seenOn 1 = .ok (.aload_n 1, 1) := by decide +kernel
theorem dX1_seenOn_2 : decode cX1_seenOn 2 = .ok (.aload_n 1, 1) := by decide +kernel
theorem dX1_seenOn_3 : decode cX1_seenOn 3 = .ok (.iload_n 2, 1) := by decide +kernel
theorem dX1_seenOn_4 : decode cX1_seenOn 4 = .ok (.invokevirtual 65, 3) := by decide +kernel
theorem dX1_seenOn_7 : decode cX1_seenOn 7 = .ok (.aload_n 1, 1) := by decide +kernel
theorem dX1_seenOn_8 : decode cX1_seenOn 8 = .ok (.iload_n 2, 1) := by decide +kernel
theorem dX1_seenOn_9 : decode cX1_seenOn 9 = .ok (.invokevirtual 68, 3) := by decide +kernel
theorem dX1_seenOn_12 : decode cX1_seenOn 12 = .ok (.aload_n 1, 1) := by decide +kernel
theorem dX1_seenOn_13 : decode cX1_seenOn 13 = .ok (.iload_n 2, 1) := by decide +kernel
theorem dX1_seenOn_14 : decode cX1_seenOn 14 = .ok (.invokevirtual 71, 3) := by decide +kernel
theorem dX1_seenOn_17 : decode cX1_seenOn 17 = .ok (.invokevirtual 74, 3) := by decide +kernel
theorem dX1_seenOn_20 : decode cX1_seenOn 20 = .ok (.ireturn, 1) := by decide +kernel
set_option maxRecDepth 20000 in
theorem ggX1_goersOn_X2_goersOn : GoodIn wsX1_goersOn wsX2_goersOn := goodIn_r _ [6, 7, 8, 9, 5, 10, 11, 12, 13, 14, 15, 16, 17, 18, 19, 20, 21, 22, 23, 24, 25, 26, 27, 28, 29, 30, 31, 32, 33, 34, 35, 36, 37, 38, 39, 40, 41, 42, 49, 50, 51, 52, 53, 54, 55, 56, 57, 58] (by decide +kernel) (by decide +kernel)
set_option maxRecDepth 20000 in
theorem gX1_goersOn_X2_goersOn : GoodIn wsX1_goersOn (wsV RX1 78 RX2 yX2_goersOn wsX2_goersOn) := goodIn_app (goodIn_of _ (by decide +kernel)) ggX1_goersOn_X2_goersOn
theorem dX1_goersOn_0 : decode cX1_goersOn 0 = .ok (.aload_n 0, 1) := by decide +kernel
theorem dX1_goersOn_1 : decode cX1_goersOn 1 = .ok (.getfield 19, 3) := by decide +kernel
theorem dX1_goersOn_4 : decode cX1_goersOn 4 = .ok (.aload_n 1, 1) := by decide +kernel
theorem dX1_goersOn_5 : decode cX1_goersOn 5 = .ok (.iload_n 2, 1) := by decide +kernel
theorem dX1_goersOn_6 : decode cX1_goersOn 6 = .ok (.invokevirtual 78, 3) := by decide +kernel
theorem dX1_goersOn_9 : decode cX1_goersOn 9 = .ok (.iand, 1) := by decide +kernel
theorem dX1_goersOn_10 : decode cX1_goersOn 10 = .ok (.ireturn, 1) := by decide +kernel
set_option maxRecDepth 20000 in
theorem ggX1_passDay_X1_seenOn : GoodIn wsX1_passDay wsX1_seenOn := goodIn_r _ [14, 15, 16, 17, 18, 19, 20, 21, 22, 23, 24, 25, 26, 27, 28, 29, 30, 31, 32, 33, 34, 35, 36, 37, 38, 39, 40, 41, 13, 42, 43, 44, 45, 46, 3, 47, 48, 49, 50, 51, 52, 53, 54, 55, 87, 88, 89, 90, 91, 92, 93, 94, 95, 96, 81, 82, 83, 84, 85, 86] (by decide +kernel) (by decide +kernel)
set_option maxRecDepth 20000 in
theorem gX1_passDay_X1_seenOn : GoodIn wsX1_passDay (wsV RX1 81 RX1 yX1_seenOn wsX1_seenOn) := goodIn_app (goodIn_of _ (by decide +kernel)) ggX1_passDay_X1_seenOn
set_option maxRecDepth 20000 in
theorem ggX1_passDay_J6_bitCount_0f7a4 : GoodIn wsX1_passDay wsJ6_bitCount_0f7a4 := goodIn_r _ [59, 60, 61, 62] (by decide +kernel) (by decide +kernel)
set_option maxRecDepth 20000 in
theorem gX1_passDay_J6_bitCount_0f7a4 : GoodIn wsX1_passDay (va_wsS RX1 51 yJ6_bitCount_0f7a4 wsJ6_bitCount_0f7a4) := goodIn_app (goodIn_of _ (by decide +kernel)) ggX1_passDay_J6_bitCount_0f7a4
set_option maxRecDepth 20000 in
theorem ggX1_passDay_X2_payAt : GoodIn wsX1_passDay wsX2_payAt := goodIn_r _ [66, 67, 87, 88, 89, 90, 91, 92, 93, 94, 95, 96] (by decide +kernel) (by decide +kernel)
set_option maxRecDepth 20000 in
theorem gX1_passDay_X2_payAt : GoodIn wsX1_passDay (wsV RX1 86 RX2 yX2_payAt wsX2_payAt) := goodIn_app (goodIn_of _ (by decide +kernel)) ggX1_passDay_X2_payAt
set_option maxRecDepth 20000 in
theorem ggX1_passDay_X1_copyMarks : GoodIn wsX1_passDay wsX1_copyMarks := goodIn_r _ [71, 72, 43, 44, 45, 13, 46, 3, 47, 27, 48, 26, 28, 73, 74, 75, 76, 77, 78, 79, 80, 81, 82, 83, 84, 85, 86] (by decide +kernel) (by decide +kernel)
set_option maxRecDepth 20000 in
theorem gX1_passDay_X1_copyMarks : GoodIn wsX1_passDay (wsV RX1 95 RX1 yX1_copyMarks wsX1_copyMarks) := goodIn_app (goodIn_of _ (by decide +kernel)) ggX1_passDay_X1_copyMarks
theorem dX1_passDay_0 : decode cX1_passDay 0 = .ok (.aload_n 0, 1) := by decide +kernel
theorem dX1_passDay_1 : decode cX1_passDay 1 = .ok (.aload_n 1, 1) := by decide +kernel
theorem dX1_passDay_2 : decode cX1_passDay 2 = .ok (.aload_n 0, 1) := by decide +kernel
theorem dX1_passDay_3 : decode cX1_passDay 3 = .ok (.getfield 28, 3) := by decide +kernel
theorem dX1_passDay_6 : decode cX1_passDay 6 = .ok (.invokevirtual 81, 3) := by decide +kernel
theorem dX1_passDay_9 : decode cX1_passDay 9 = .ok (.istore_n 2, 1) := by decide +kernel
theorem dX1_passDay_10 : decode cX1_passDay 10 = .ok (.iload_n 2, 1) := by decide +kernel
theorem dX1_passDay_11 : decode cX1_passDay 11 = .ok (.iconst (-1), 1) := by decide +kernel
theorem dX1_passDay_12 : decode cX1_passDay 12 = .ok (.if_icmp .eq 15, 3) := by decide +kernel
theorem dX1_passDay_15 : decode cX1_passDay 15 = .ok (.aload_n 0, 1) := by decide +kernel
theorem dX1_passDay_16 : decode cX1_passDay 16 = .ok (.dup, 1) := by decide +kernel
theorem dX1_passDay_17 : decode cX1_passDay 17 = .ok (.getfield 22, 3) := by decide +kernel
theorem dX1_passDay_20 : decode cX1_passDay 20 = .ok (.iconst 1, 1) := by decide +kernel
theorem dX1_passDay_21 : decode cX1_passDay 21 = .ok (.iload_n 2, 1) := by decide +kernel
theorem dX1_passDay_22 : decode cX1_passDay 22 = .ok (.ishl, 1) := by decide +kernel
theorem dX1_passDay_23 : decode cX1_passDay 23 = .ok (.ior, 1) := by decide +kernel
theorem dX1_passDay_24 : decode cX1_passDay 24 = .ok (.putfield 22, 3) := by decide +kernel
theorem dX1_passDay_27 : decode cX1_passDay 27 = .ok (.aload_n 0, 1) := by decide +kernel
theorem dX1_passDay_28 : decode cX1_passDay 28 = .ok (.getfield 19, 3) := by decide +kernel
theorem dX1_passDay_31 : decode cX1_passDay 31 = .ok (.invokestatic 51, 3) := by decide +kernel
theorem dX1_passDay_34 : decode cX1_passDay 34 = .ok (.istore_n 3, 1) := by decide +kernel
theorem dX1_passDay_35 : decode cX1_passDay 35 = .ok (.iconst 0, 1) := by decide +kernel
theorem dX1_passDay_36 : decode cX1_passDay 36 = .ok (.istore 4, 2) := by decide +kernel
theorem dX1_passDay_38 : decode cX1_passDay 38 = .ok (.iload 4, 2) := by decide +kernel
theorem dX1_passDay_40 : decode cX1_passDay 40 = .ok (.iload_n 3, 1) := by decide +kernel
theorem dX1_passDay_41 : decode cX1_passDay 41 = .ok (.if_icmp .ge 29, 3) := by decide +kernel
theorem dX1_passDay_44 : decode cX1_passDay 44 = .ok (.aload_n 0, 1) := by decide +kernel
theorem dX1_passDay_45 : decode cX1_passDay 45 = .ok (.ldc 85, 2) := by decide +kernel
theorem dX1_passDay_47 : decode cX1_passDay 47 = .ok (.aload_n 0, 1) := by decide +kernel
theorem dX1_passDay_48 : decode cX1_passDay 48 = .ok (.getfield 25, 3) := by decide +kernel
theorem dX1_passDay_51 : decode cX1_passDay 51 = .ok (.aload_n 1, 1) := by decide +kernel
theorem dX1_passDay_52 : decode cX1_passDay 52 = .ok (.iload 4, 2) := by decide +kernel
theorem dX1_passDay_54 : decode cX1_passDay 54 = .ok (.invokevirtual 86, 3) := by decide +kernel
theorem dX1_passDay_57 : decode cX1_passDay 57 = .ok (.iadd, 1) := by decide +kernel
theorem dX1_passDay_58 : decode cX1_passDay 58 = .ok (.invokestatic 89, 3) := by decide +kernel
theorem dX1_passDay_61 : decode cX1_passDay 61 = .ok (.putfield 25, 3) := by decide +kernel
theorem dX1_passDay_64 : decode cX1_passDay 64 = .ok (.iinc 4 1, 3) := by decide +kernel
theorem dX1_passDay_67 : decode cX1_passDay 67 = .ok (.goto (-29), 3) := by decide +kernel
theorem dX1_passDay_70 : decode cX1_passDay 70 = .ok (.aload_n 0, 1) := by decide +kernel
theorem dX1_passDay_71 : decode cX1_passDay 71 = .ok (.invokevirtual 95, 3) := by decide +kernel
theorem dX1_passDay_74 : decode cX1_passDay 74 = .ok (.aload_n 0, 1) := by decide +kernel
theorem dX1_passDay_75 : decode cX1_passDay 75 = .ok (.dup, 1) := by decide +kernel
theorem dX1_passDay_76 : decode cX1_passDay 76 = .ok (.getfield 28, 3) := by decide +kernel
theorem dX1_passDay_79 : decode cX1_passDay 79 = .ok (.iconst 1, 1) := by decide +kernel
theorem dX1_passDay_80 : decode cX1_passDay 80 = .ok (.iadd, 1) := by decide +kernel
theorem dX1_passDay_81 : decode cX1_passDay 81 = .ok (.putfield 28, 3) := by decide +kernel
theorem dX1_passDay_84 : decode cX1_passDay 84 = .ok (.return_, 1) := by decide +kernel
set_option maxRecDepth 20000 in
theorem ggX1_copyMarks_X1_lives : GoodIn wsX1_copyMarks wsX1_lives := goodIn_r _ [6, 7, 8, 9, 10, 21, 22, 23, 24, 25, 26] (by decide +kernel) (by decide +kernel)
set_option maxRecDepth 20000 in
theorem gX1_copyMarks_X1_lives : GoodIn wsX1_copyMarks (wsV RX1 57 RX1 yX1_lives wsX1_lives) := goodIn_app (goodIn_of _ (by decide +kernel)) ggX1_copyMarks_X1_lives
set_option maxRecDepth 20000 in
theorem ggX1_copyMarks_X7_at : GoodIn wsX1_copyMarks wsX7_at := goodIn_r _ [12] (by decide +kernel) (by decide +kernel)
set_option maxRecDepth 20000 in
theorem gX1_copyMarks_X7_at_n39 : GoodIn wsX1_copyMarks (wsX7_at) := ggX1_copyMarks_X7_at
set_option maxRecDepth 20000 in
theorem ggX1_copyMarks_X1_copied : GoodIn wsX1_copyMarks wsX1_copied := goodIn_r _ [16, 17, 9, 18] (by decide +kernel) (by decide +kernel)
set_option maxRecDepth 20000 in
theorem gX1_copyMarks_X1_copied : GoodIn wsX1_copyMarks (wsV RX1 98 RX1 yX1_copied wsX1_copied) := goodIn_app (goodIn_of _ (by decide +kernel)) ggX1_copyMarks_X1_copied
set_option maxRecDepth 20000 in
theorem ggX1_copyMarks_X7_put : GoodIn wsX1_copyMarks wsX7_put := goodIn_r _ [20] (by decide +kernel) (by decide +kernel)
set_option maxRecDepth 20000 in
theorem gX1_copyMarks_X7_put_n43 : GoodIn wsX1_copyMarks (wsX7_put) := ggX1_copyMarks_X7_put
theorem dX1_copyMarks_0 : decode cX1_copyMarks 0 = .ok (.iconst (-1), 1) := by decide +kernel
theorem dX1_copyMarks_1 : decode cX1_copyMarks 1 = .ok (.istore_n 1, 1) := by decide +kernel
theorem dX1_copyMarks_2 : decode cX1_copyMarks 2 = .ok (.bipush 7, 2) := by decide +kernel
theorem dX1_copyMarks_4 : decode cX1_copyMarks 4 = .ok (.istore_n 2, 1) := by decide +kernel
theorem dX1_copyMarks_5 : decode cX1_copyMarks 5 = .ok (.iload_n 2, 1) := by decide +kernel
theorem dX1_copyMarks_6 : decode cX1_copyMarks 6 = .ok (.ifCond .lt 52, 3) := by decide +kernel
theorem dX1_copyMarks_9 : decode cX1_copyMarks 9 = .ok (.aload_n 0, 1) := by decide +kernel
theorem dX1_copyMarks_10 : decode cX1_copyMarks 10 = .ok (.iload_n 2, 1) := by decide +kernel
theorem dX1_copyMarks_11 : decode cX1_copyMarks 11 = .ok (.invokevirtual 57, 3) := by decide +kernel
theorem dX1_copyMarks_14 : decode cX1_copyMarks 14 = .ok (.ifCond .eq 38, 3) := by decide +kernel
theorem dX1_copyMarks_17 : decode cX1_copyMarks 17 = .ok (.iload_n 1, 1) := by decide +kernel
theorem dX1_copyMarks_18 : decode cX1_copyMarks 18 = .ok (.iconst (-1), 1) := by decide +kernel
theorem dX1_copyMarks_19 : decode cX1_copyMarks 19 = .ok (.if_icmp .eq 31, 3) := by decide +kernel
theorem dX1_copyMarks_22 : decode cX1_copyMarks 22 = .ok (.aload_n 0, 1) := by decide +kernel
theorem dX1_copyMarks_23 : decode cX1_copyMarks 23 = .ok (.getfield 9, 3) := by decide +kernel
theorem dX1_copyMarks_26 : decode cX1_copyMarks 26 = .ok (.iload_n 1, 1) := by decide +kernel
theorem dX1_copyMarks_27 : decode cX1_copyMarks 27 = .ok (.aload_n 0, 1) := by decide +kernel
theorem dX1_copyMarks_28 : decode cX1_copyMarks 28 = .ok (.aload_n 0, 1) := by decide +kernel
theorem dX1_copyMarks_29 : decode cX1_copyMarks 29 = .ok (.getfield 9, 3) := by decide +kernel
theorem dX1_copyMarks_32 : decode cX1_copyMarks 32 = .ok (.iload_n 1, 1) := by decide +kernel
theorem dX1_copyMarks_33 : decode cX1_copyMarks 33 = .ok (.invokestatic 39, 3) := by decide +kernel
theorem dX1_copyMarks_36 : decode cX1_copyMarks 36 = .ok (.aload_n 0, 1) := by decide +kernel
theorem dX1_copyMarks_37 : decode cX1_copyMarks 37 = .ok (.getfield 9, 3) := by decide +kernel
theorem dX1_copyMarks_40 : decode cX1_copyMarks 40 = .ok (.iload_n 2, 1) := by decide +kernel
theorem dX1_copyMarks_41 : decode cX1_copyMarks 41 = .ok (.invokestatic 39, 3) := by decide +kernel
theorem dX1_copyMarks_44 : decode cX1_copyMarks 44 = .ok (.invokevirtual 98, 3) := by decide +kernel
theorem dX1_copyMarks_47 : decode cX1_copyMarks 47 = .ok (.invokestatic 43, 3) := by decide +kernel
theorem dX1_copyMarks_50 : decode cX1_copyMarks 50 = .ok (.iload_n 2, 1) := by decide +kernel
theorem dX1_copyMarks_51 : decode cX1_copyMarks 51 = .ok (.istore_n 1, 1) := by decide +kernel
theorem dX1_copyMarks_52 : decode cX1_copyMarks 52 = .ok (.iinc 2 (-1), 3) := by decide +kernel
theorem dX1_copyMarks_55 : decode cX1_copyMarks 55 = .ok (.goto (-50), 3) := by decide +kernel
theorem dX1_copyMarks_58 : decode cX1_copyMarks 58 = .ok (.return_, 1) := by decide +kernel
set_option maxRecDepth 20000 in
theorem ggX1_copied_X7_leastOf : GoodIn wsX1_copied wsX7_leastOf := goodIn_r _ [3] (by decide +kernel) (by decide +kernel)
set_option maxRecDepth 20000 in
theorem gX1_copied_X7_leastOf_n101 : GoodIn wsX1_copied (wsX7_leastOf) := ggX1_copied_X7_leastOf
theorem dX1_copied_0 : decode cX1_copied 0 = .ok (.iload_n 2, 1) := by decide +kernel
theorem dX1_copied_1 : decode cX1_copied 1 = .ok (.iload_n 1, 1) := by decide +kernel
theorem dX1_copied_2 : decode cX1_copied 2 = .ok (.iconst (-1), 1) := by decide +kernel
theorem dX1_copied_3 : decode cX1_copied 3 = .ok (.ixor, 1) := by decide +kernel
theorem dX1_copied_4 : decode cX1_copied 4 = .ok (.iand, 1) := by decide +kernel
theorem dX1_copied_5 : decode cX1_copied 5 = .ok (.istore_n 3, 1) := by decide +kernel
theorem dX1_copied_6 : decode cX1_copied 6 = .ok (.iload_n 3, 1) := by decide +kernel
theorem dX1_copied_7 : decode cX1_copied 7 = .ok (.ifCond .eq 10, 3) := by decide +kernel
theorem dX1_copied_10 : decode cX1_copied 10 = .ok (.iload_n 1, 1) := by decide +kernel
theorem dX1_copied_11 : decode cX1_copied 11 = .ok (.iload_n 3, 1) := by decide +kernel
theorem dX1_copied_12 : decode cX1_copied 12 = .ok (.invokestatic 101, 3) := by decide +kernel
theorem dX1_copied_15 : decode cX1_copied 15 = .ok (.ior, 1) := by decide +kernel
theorem dX1_copied_16 : decode cX1_copied 16 = .ok (.ireturn, 1) := by decide +kernel
theorem dX1_copied_17 : decode cX1_copied 17 = .ok (.iload_n 1, 1) := by decide +kernel
theorem dX1_copied_18 : decode cX1_copied 18 = .ok (.iload_n 1, 1) := by decide +kernel
theorem dX1_copied_19 : decode cX1_copied 19 = .ok (.iload_n 2, 1) := by decide +kernel
theorem dX1_copied_20 : decode cX1_copied 20 = .ok (.iconst (-1), 1) := by decide +kernel
theorem dX1_copied_21 : decode cX1_copied 21 = .ok (.ixor, 1) := by decide +kernel
theorem dX1_copied_22 : decode cX1_copied 22 = .ok (.iand, 1) := by decide +kernel
theorem dX1_copied_23 : decode cX1_copied 23 = .ok (.invokestatic 101, 3) := by decide +kernel
theorem dX1_copied_26 : decode cX1_copied 26 = .ok (.iconst (-1), 1) := by decide +kernel
theorem dX1_copied_27 : decode cX1_copied 27 = .ok (.ixor, 1) := by decide +kernel
theorem dX1_copied_28 : decode cX1_copied 28 = .ok (.iand, 1) := by decide +kernel
theorem dX1_copied_29 : decode cX1_copied 29 = .ok (.ireturn, 1) := by decide +kernel
set_option maxRecDepth 20000 in
theorem ggX1_loseSeen_X1_seenOn : GoodIn wsX1_loseSeen wsX1_seenOn := goodIn_r _ [7, 8, 9, 10, 11, 12, 13, 14, 15, 16, 17, 18, 19, 20, 21, 22, 23, 24, 25, 26, 27, 28, 29, 30, 31, 32, 33, 34, 6, 35, 36, 37, 38, 39, 2, 40, 41, 42, 43, 44, 45, 46, 47, 48, 55, 56, 57, 58, 59, 60, 61, 62, 63, 64, 49, 50, 51, 52, 53, 54] (by decide +kernel) (by decide +kernel)
set_option maxRecDepth 20000 in
theorem gX1_loseSeen_X1_seenOn : GoodIn wsX1_loseSeen (wsV RX1 81 RX1 yX1_seenOn wsX1_seenOn) := goodIn_app (goodIn_of _ (by decide +kernel)) ggX1_loseSeen_X1_seenOn
theorem dX1_loseSeen_0 : decode cX1_loseSeen 0 = .ok (.aload_n 0, 1) := by decide +kernel
theorem dX1_loseSeen_1 : decode cX1_loseSeen 1 = .ok (.aload_n 1, 1) := by decide +kernel
theorem dX1_loseSeen_2 : decode cX1_loseSeen 2 = .ok (.aload_n 0, 1) := by decide +kernel
theorem dX1_loseSeen_3 : decode cX1_loseSeen 3 = .ok (.getfield 28, 3) := by decide +kernel
theorem dX1_loseSeen_6 : decode cX1_loseSeen 6 = .ok (.invokevirtual 81, 3) := by decide +kernel
theorem dX1_loseSeen_9 : decode cX1_loseSeen 9 = .ok (.istore_n 2, 1) := by decide +kernel
theorem dX1_loseSeen_10 : decode cX1_loseSeen 10 = .ok (.iload_n 2, 1) := by decide +kernel
theorem dX1_loseSeen_11 : decode cX1_loseSeen 11 = .ok (.iconst (-1), 1) := by decide +kernel
theorem dX1_loseSeen_12 : decode cX1_loseSeen 12 = .ok (.if_icmp .eq 17, 3) := by decide +kernel
theorem dX1_loseSeen_15 : decode cX1_loseSeen 15 = .ok (.aload_n 0, 1) := by decide +kernel
theorem dX1_loseSeen_16 : decode cX1_loseSeen 16 = .ok (.dup, 1) := by decide +kernel
theorem dX1_loseSeen_17 : decode cX1_loseSeen 17 = .ok (.getfield 19, 3) := by decide +kernel
theorem dX1_loseSeen_20 : decode cX1_loseSeen 20 = .ok (.iconst 1, 1) := by decide +kernel
theorem dX1_loseSeen_21 : decode cX1_loseSeen 21 = .ok (.iload_n 2, 1) := by decide +kernel
theorem dX1_loseSeen_22 : decode cX1_loseSeen 22 = .ok (.ishl, 1) := by decide +kernel
theorem dX1_loseSeen_23 : decode cX1_loseSeen 23 = .ok (.iconst (-1), 1) := by decide +kernel
theorem dX1_loseSeen_24 : decode cX1_loseSeen 24 = .ok (.ixor, 1) := by decide +kernel
theorem dX1_loseSeen_25 : decode cX1_loseSeen 25 = .ok (.iand, 1) := by decide +kernel
theorem dX1_loseSeen_26 : decode cX1_loseSeen 26 = .ok (.putfield 19, 3) := by decide +kernel
theorem dX1_loseSeen_29 : decode cX1_loseSeen 29 = .ok (.iload_n 2, 1) := by decide +kernel
theorem dX1_loseSeen_30 : decode cX1_loseSeen 30 = .ok (.ireturn, 1) := by decide +kernel
set_option maxRecDepth 20000 in
theorem ggX1_takeOn_X1_lives : GoodIn wsX1_takeOn wsX1_lives := goodIn_r _ [8, 3, 9, 10, 11, 16, 17, 18, 19, 20, 21] (by decide +kernel) (by decide +kernel)
set_option maxRecDepth 20000 in
theorem gX1_takeOn_X1_lives : GoodIn wsX1_takeOn (wsV RX1 57 RX1 yX1_lives wsX1_lives) := goodIn_app (goodIn_of _ (by decide +kernel)) ggX1_takeOn_X1_lives
set_option maxRecDepth 20000 in
theorem ggX1_takeOn_X7_at : GoodIn wsX1_takeOn wsX7_at := goodIn_r _ [13] (by decide +kernel) (by decide +kernel)
set_option maxRecDepth 20000 in
theorem gX1_takeOn_X7_at_n39 : GoodIn wsX1_takeOn (wsX7_at) := ggX1_takeOn_X7_at
set_option maxRecDepth 20000 in
theorem ggX1_takeOn_X7_put : GoodIn wsX1_takeOn wsX7_put := goodIn_r _ [15] (by decide +kernel) (by decide +kernel)
set_option maxRecDepth 20000 in
theorem gX1_takeOn_X7_put_n43 : GoodIn wsX1_takeOn (wsX7_put) := ggX1_takeOn_X7_put
theorem dX1_takeOn_0 : decode cX1_takeOn 0 = .ok (.aload_n 0, 1) := by decide +kernel
theorem dX1_takeOn_1 : decode cX1_takeOn 1 = .ok (.getfield 15, 3) := by decide +kernel
theorem dX1_takeOn_4 : decode cX1_takeOn 4 = .ok (.istore_n 1, 1) := by decide +kernel
theorem dX1_takeOn_5 : decode cX1_takeOn 5 = .ok (.iconst 0, 1) := by decide +kernel
theorem dX1_takeOn_6 : decode cX1_takeOn 6 = .ok (.istore_n 2, 1) := by decide +kernel
theorem dX1_takeOn_7 : decode cX1_takeOn 7 = .ok (.iload_n 2, 1) := by decide +kernel
theorem dX1_takeOn_8 : decode cX1_takeOn 8 = .ok (.aload_n 0, 1) := by decide +kernel
theorem dX1_takeOn_9 : decode cX1_takeOn 9 = .ok (.getfield 15, 3) := by decide +kernel
theorem dX1_takeOn_12 : decode cX1_takeOn 12 = .ok (.if_icmp .ge 33, 3) := by decide +kernel
theorem dX1_takeOn_15 : decode cX1_takeOn 15 = .ok (.aload_n 0, 1) := by decide +kernel
theorem dX1_takeOn_16 : decode cX1_takeOn 16 = .ok (.iload_n 2, 1) := by decide +kernel
theorem dX1_takeOn_17 : decode cX1_takeOn 17 = .ok (.invokevirtual 57, 3) := by decide +kernel
theorem dX1_takeOn_20 : decode cX1_takeOn 20 = .ok (.ifCond .eq 19, 3) := by decide +kernel
theorem dX1_takeOn_23 : decode cX1_takeOn 23 = .ok (.aload_n 0, 1) := by decide +kernel
theorem dX1_takeOn_24 : decode cX1_takeOn 24 = .ok (.getfield 9, 3) := by decide +kernel
theorem dX1_takeOn_27 : decode cX1_takeOn 27 = .ok (.iload_n 1, 1) := by decide +kernel
theorem dX1_takeOn_28 : decode cX1_takeOn 28 = .ok (.aload_n 0, 1) := by decide +kernel
theorem dX1_takeOn_29 : decode cX1_takeOn 29 = .ok (.getfield 9, 3) := by decide +kernel
theorem dX1_takeOn_32 : decode cX1_takeOn 32 = .ok (.iload_n 2, 1) := by decide +kernel
theorem dX1_takeOn_33 : decode cX1_takeOn 33 = .ok (.invokestatic 39, 3) := by decide +kernel
theorem dX1_takeOn_36 : decode cX1_takeOn 36 = .ok (.invokestatic 43, 3) := by decide +kernel
theorem dX1_takeOn_39 : decode cX1_takeOn 39 = .ok (.iinc 2 1, 3) := by decide +kernel
theorem dX1_takeOn_42 : decode cX1_takeOn 42 = .ok (.goto (-35), 3) := by decide +kernel
theorem dX1_takeOn_45 : decode cX1_takeOn 45 = .ok (.aload_n 0, 1) := by decide +kernel
theorem dX1_takeOn_46 : decode cX1_takeOn 46 = .ok (.dup, 1) := by decide +kernel
theorem dX1_takeOn_47 : decode cX1_takeOn 47 = .ok (.getfield 19, 3) := by decide +kernel
theorem dX1_takeOn_50 : decode cX1_takeOn 50 = .ok (.iconst 1, 1) := by decide +kernel
theorem dX1_takeOn_51 : decode cX1_takeOn 51 = .ok (.iload_n 1, 1) := by decide +kernel
theorem dX1_takeOn_52 : decode cX1_takeOn 52 = .ok (.ishl, 1) := by decide +kernel
theorem dX1_takeOn_53 : decode cX1_takeOn 53 = .ok (.ior, 1) := by decide +kernel
theorem dX1_takeOn_54 : decode cX1_takeOn 54 = .ok (.putfield 19, 3) := by decide +kernel
theorem dX1_takeOn_57 : decode cX1_takeOn 57 = .ok (.aload_n 0, 1) := by decide +kernel
theorem dX1_takeOn_58 : decode cX1_takeOn 58 = .ok (.dup, 1) := by decide +kernel
theorem dX1_takeOn_59 : decode cX1_takeOn 59 = .ok (.getfield 15, 3) := by decide +kernel
theorem dX1_takeOn_62 : decode cX1_takeOn 62 = .ok (.iconst 1, 1) := by decide +kernel
theorem dX1_takeOn_63 : decode cX1_takeOn 63 = .ok (.iadd, 1) := by decide +kernel
theorem dX1_takeOn_64 : decode cX1_takeOn 64 = .ok (.putfield 15, 3) := by decide +kernel
theorem dX1_takeOn_67 : decode cX1_takeOn 67 = .ok (.iload_n 1, 1) := by decide +kernel
theorem dX1_takeOn_68 : decode cX1_takeOn 68 = .ok (.ireturn, 1) := by decide +kernel
set_option maxRecDepth 20000 in
theorem ggX1_alike_X1_lives : GoodIn wsX1_alike wsX1_lives := goodIn_r _ [6, 7, 8, 9, 10, 13, 14, 15, 16, 17, 18] (by decide +kernel) (by decide +kernel)
set_option maxRecDepth 20000 in
theorem gX1_alike_X1_lives : GoodIn wsX1_alike (wsV RX1 57 RX1 yX1_lives wsX1_lives) := goodIn_app (goodIn_of _ (by decide +kernel)) ggX1_alike_X1_lives
set_option maxRecDepth 20000 in
theorem ggX1_alike_X7_at : GoodIn wsX1_alike wsX7_at := goodIn_r _ [12] (by decide +kernel) (by decide +kernel)
set_option maxRecDepth 20000 in
theorem gX1_alike_X7_at_n39 : GoodIn wsX1_alike (wsX7_at) := ggX1_alike_X7_at
theorem dX1_alike_0 : decode cX1_alike 0 = .ok (.iconst 0, 1) := by decide +kernel
theorem dX1_alike_1 : decode cX1_alike 1 = .ok (.istore_n 2, 1) := by decide +kernel
theorem dX1_alike_2 : decode cX1_alike 2 = .ok (.iconst 0, 1) := by decide +kernel
theorem dX1_alike_3 : decode cX1_alike 3 = .ok (.istore_n 3, 1) := by decide +kernel
theorem dX1_alike_4 : decode cX1_alike 4 = .ok (.iload_n 3, 1) := by decide +kernel
theorem dX1_alike_5 : decode cX1_alike 5 = .ok (.bipush 8, 2) := by decide +kernel
theorem dX1_alike_7 : decode cX1_alike 7 = .ok (.if_icmp .ge 42, 3) := by decide +kernel
theorem dX1_alike_10 : decode cX1_alike 10 = .ok (.aload_n 0, 1) := by decide +kernel
theorem dX1_alike_11 : decode cX1_alike 11 = .ok (.iload_n 3, 1) := by decide +kernel
theorem dX1_alike_12 : decode cX1_alike 12 = .ok (.invokevirtual 57, 3) := by decide +kernel
theorem dX1_alike_15 : decode cX1_alike 15 = .ok (.ifCond .eq 28, 3) := by decide +kernel
theorem dX1_alike_18 : decode cX1_alike 18 = .ok (.aload_n 0, 1) := by decide +kernel
theorem dX1_alike_19 : decode cX1_alike 19 = .ok (.getfield 9, 3) := by decide +kernel
theorem dX1_alike_22 : decode cX1_alike 22 = .ok (.iload_n 3, 1) := by decide +kernel
theorem dX1_alike_23 : decode cX1_alike 23 = .ok (.invokestatic 39, 3) := by decide +kernel
theorem dX1_alike_26 : decode cX1_alike 26 = .ok (.aload_n 0, 1) := by decide +kernel
theorem dX1_alike_27 : decode cX1_alike 27 = .ok (.getfield 9, 3) := by decide +kernel
theorem dX1_alike_30 : decode cX1_alike 30 = .ok (.iload_n 1, 1) := by decide +kernel
theorem dX1_alike_31 : decode cX1_alike 31 = .ok (.invokestatic 39, 3) := by decide +kernel
theorem dX1_alike_34 : decode cX1_alike 34 = .ok (.if_icmp .ne 9, 3) := by decide +kernel
theorem dX1_alike_37 : decode cX1_alike 37 = .ok (.iload_n 2, 1) := by decide +kernel
theorem dX1_alike_38 : decode cX1_alike 38 = .ok (.iconst 1, 1) := by decide +kernel
theorem dX1_alike_39 : decode cX1_alike 39 = .ok (.iload_n 3, 1) := by decide +kernel
theorem dX1_alike_40 : decode cX1_alike 40 = .ok (.ishl, 1) := by decide +kernel
theorem dX1_alike_41 : decode cX1_alike 41 = .ok (.ior, 1) := by decide +kernel
theorem dX1_alike_42 : decode cX1_alike 42 = .ok (.istore_n 2, 1) := by decide +kernel
theorem dX1_alike_43 : decode cX1_alike 43 = .ok (.iinc 3 1, 3) := by decide +kernel
theorem dX1_alike_46 : decode cX1_alike 46 = .ok (.goto (-42), 3) := by decide +kernel
theorem dX1_alike_49 : decode cX1_alike 49 = .ok (.iload_n 2, 1) := by decide +kernel
theorem dX1_alike_50 : decode cX1_alike 50 = .ok (.ireturn, 1) := by decide +kernel
set_option maxRecDepth 20000 in
theorem ggX1_countClasses_X1_lives : GoodIn wsX1_countClasses wsX1_lives := goodIn_r _ [5, 6, 7, 8, 9, 19, 20, 21, 22, 23, 24] (by decide +kernel) (by decide +kernel)
set_option maxRecDepth 20000 in
theorem gX1_countClasses_X1_lives : GoodIn wsX1_countClasses (wsV RX1 57 RX1 yX1_lives wsX1_lives) := goodIn_app (goodIn_of _ (by decide +kernel)) ggX1_countClasses_X1_lives
set_option maxRecDepth 20000 in
theorem ggX1_countClasses_X1_alike : GoodIn wsX1_countClasses wsX1_alike := goodIn_r _ [13, 14, 1, 2, 3, 4, 5, 6, 7, 8, 9, 15, 16, 19, 20, 21, 22, 23, 24] (by decide +kernel) (by decide +kernel)
set_option maxRecDepth 20000 in
theorem gX1_countClasses_X1_alike : GoodIn wsX1_countClasses (wsV RX1 104 RX1 yX1_alike wsX1_alike) := goodIn_app (goodIn_of _ (by decide +kernel)) ggX1_countClasses_X1_alike
set_option maxRecDepth 20000 in
theorem ggX1_countClasses_X7_leastOf : GoodIn wsX1_countClasses wsX7_leastOf := goodIn_r _ [18] (by decide +kernel) (by decide +kernel)
set_option maxRecDepth 20000 in
theorem gX1_countClasses_X7_leastOf_n101 : GoodIn wsX1_countClasses (wsX7_leastOf) := ggX1_countClasses_X7_leastOf
theorem dX1_countClasses_0 : decode cX1_countClasses 0 = .ok (.iconst 0, 1) := by decide +kernel
theorem dX1_countClasses_1 : decode cX1_countClasses 1 = .ok (.istore_n 1, 1) := by decide +kernel
theorem dX1_countClasses_2 : decode cX1_countClasses 2 = .ok (.iconst 0, 1) := by decide +kernel
theorem dX1_countClasses_3 : decode cX1_countClasses 3 = .ok (.istore_n 2, 1) := by decide +kernel
theorem dX1_countClasses_4 : decode cX1_countClasses 4 = .ok (.iload_n 2, 1) := by decide +kernel
theorem dX1_countClasses_5 : decode cX1_countClasses 5 = .ok (.bipush 8, 2) := by decide +kernel
theorem dX1_countClasses_7 : decode cX1_countClasses 7 = .ok (.if_icmp .ge 34, 3) := by decide +kernel
theorem dX1_countClasses_10 : decode cX1_countClasses 10 = .ok (.aload_n 0, 1) := by decide +kernel
theorem dX1_countClasses_11 : decode cX1_countClasses 11 = .ok (.iload_n 2, 1) := by decide +kernel
theorem dX1_countClasses_12 : decode cX1_countClasses 12 = .ok (.invokevirtual 57, 3) := by decide +kernel
theorem dX1_countClasses_15 : decode cX1_countClasses 15 = .ok (.ifCond .eq 20, 3) := by decide +kernel
theorem dX1_countClasses_18 : decode cX1_countClasses 18 = .ok (.aload_n 0, 1) := by decide +kernel
theorem dX1_countClasses_19 : decode cX1_countClasses 19 = .ok (.iload_n 2, 1) := by decide +kernel
theorem dX1_countClasses_20 : decode cX1_countClasses 20 = .ok (.invokevirtual 104, 3) := by decide +kernel
theorem dX1_countClasses_23 : decode cX1_countClasses 23 = .ok (.invokestatic 101, 3) := by decide +kernel
theorem dX1_countClasses_26 : decode cX1_countClasses 26 = .ok (.iconst 1, 1) := by decide +kernel
theorem dX1_countClasses_27 : decode cX1_countClasses 27 = .ok (.iload_n 2, 1) := by decide +kernel
theorem dX1_countClasses_28 : decode cX1_countClasses 28 = .ok (.ishl, 1) := by decide +kernel
theorem dX1_countClasses_29 : decode cX1_countClasses 29 = .ok (.if_icmp .ne 6, 3) := by decide +kernel
theorem dX1_countClasses_32 : decode cX1_countClasses 32 = .ok (.iinc 1 1, 3) := by decide +kernel
theorem dX1_countClasses_35 : decode cX1_countClasses 35 = .ok (.iinc 2 1, 3) := by decide +kernel
theorem dX1_countClasses_38 : decode cX1_countClasses 38 = .ok (.goto (-34), 3) := by decide +kernel
theorem dX1_countClasses_41 : decode cX1_countClasses 41 = .ok (.iload_n 1, 1) := by decide +kernel
theorem dX1_countClasses_42 : decode cX1_countClasses 42 = .ok (.ireturn, 1) := by decide +kernel
set_option maxRecDepth 20000 in
theorem ggX1_isToldBy_X1_lives : GoodIn wsX1_isToldBy wsX1_lives := goodIn_r _ [5, 6, 7, 8, 9, 28, 29, 30, 31, 32, 33] (by decide +kernel) (by decide +kernel)
set_option maxRecDepth 20000 in
theorem gX1_isToldBy_X1_lives : GoodIn wsX1_isToldBy (wsV RX1 57 RX1 yX1_lives wsX1_lives) := goodIn_app (goodIn_of _ (by decide +kernel)) ggX1_isToldBy_X1_lives
set_option maxRecDepth 20000 in
theorem ggX1_isToldBy_X1_aheadOf : GoodIn wsX1_isToldBy wsX1_aheadOf := goodIn_r _ [13, 6, 14, 15, 16, 17, 18, 19, 20, 28, 29, 30, 31, 32, 33] (by decide +kernel) (by decide +kernel)
set_option maxRecDepth 20000 in
theorem gX1_isToldBy_X1_aheadOf : GoodIn wsX1_isToldBy (wsV RX1 107 RX1 yX1_aheadOf wsX1_aheadOf) := goodIn_app (goodIn_of _ (by decide +kernel)) ggX1_isToldBy_X1_aheadOf
set_option maxRecDepth 20000 in
theorem ggX1_isToldBy_X1_isUnlikeThoseBehind : GoodIn wsX1_isToldBy wsX1_isUnlikeThoseBehind := goodIn_r _ [24, 25, 1, 2, 3, 4, 5, 6, 7, 8, 9, 26, 27, 28, 29, 30, 31, 32, 33] (by decide +kernel) (by decide +kernel)
set_option maxRecDepth 20000 in
theorem gX1_isToldBy_X1_isUnlikeThoseBehind : GoodIn wsX1_isToldBy (wsV RX1 110 RX1 yX1_isUnlikeThoseBehind wsX1_isUnlikeThoseBehind) := goodIn_app (goodIn_of _ (by decide +kernel)) ggX1_isToldBy_X1_isUnlikeThoseBehind
theorem dX1_isToldBy_0 : decode cX1_isToldBy 0 = .ok (.iconst 0, 1) := by decide +kernel
theorem dX1_isToldBy_1 : decode cX1_isToldBy 1 = .ok (.istore_n 3, 1) := by decide +kernel
theorem dX1_isToldBy_2 : decode cX1_isToldBy 2 = .ok (.iload_n 3, 1) := by decide +kernel
theorem dX1_isToldBy_3 : decode cX1_isToldBy 3 = .ok (.bipush 8, 2) := by decide +kernel
theorem dX1_isToldBy_5 : decode cX1_isToldBy 5 = .ok (.if_icmp .ge 40, 3) := by decide +kernel
theorem dX1_isToldBy_8 : decode cX1_isToldBy 8 = .ok (.aload_n 0, 1) := by decide +kernel
theorem dX1_isToldBy_9 : decode cX1_isToldBy 9 = .ok (.iload_n 3, 1) := by decide +kernel
theorem dX1_isToldBy_10 : decode cX1_isToldBy 10 = .ok (.invokevirtual 57, 3) := by decide +kernel
theorem dX1_isToldBy_13 : decode cX1_isToldBy 13 = .ok (.ifCond .eq 26, 3) := by decide +kernel
theorem dX1_isToldBy_16 : decode cX1_isToldBy 16 = .ok (.iload_n 2, 1) := by decide +kernel
theorem dX1_isToldBy_17 : decode cX1_isToldBy 17 = .ok (.ifCond .ne 11, 3) := by decide +kernel
theorem dX1_isToldBy_20 : decode cX1_isToldBy 20 = .ok (.aload_n 0, 1) := by decide +kernel
theorem dX1_isToldBy_21 : decode cX1_isToldBy 21 = .ok (.iload_n 3, 1) := by decide +kernel
theorem dX1_isToldBy_22 : decode cX1_isToldBy 22 = .ok (.invokevirtual 107, 3) := by decide +kernel
theorem dX1_isToldBy_25 : decode cX1_isToldBy 25 = .ok (.ifCond .ne 14, 3) := by decide +kernel
theorem dX1_isToldBy_28 : decode cX1_isToldBy 28 = .ok (.aload_n 0, 1) := by decide +kernel
theorem dX1_isToldBy_29 : decode cX1_isToldBy 29 = .ok (.iload_n 3, 1) := by decide +kernel
theorem dX1_isToldBy_30 : decode cX1_isToldBy 30 = .ok (.iload_n 1, 1) := by decide +kernel
theorem dX1_isToldBy_31 : decode cX1_isToldBy 31 = .ok (.invokevirtual 110, 3) := by decide +kernel
theorem dX1_isToldBy_34 : decode cX1_isToldBy 34 = .ok (.ifCond .ne 5, 3) := by decide +kernel
theorem dX1_isToldBy_37 : decode cX1_isToldBy 37 = .ok (.iconst 0, 1) := by decide +kernel
theorem dX1_isToldBy_38 : decode cX1_isToldBy 38 = .ok (.ireturn, 1) := by decide +kernel
theorem dX1_isToldBy_39 : decode cX1_isToldBy 39 = .ok (.iinc 3 1, 3) := by decide +kernel
theorem dX1_isToldBy_42 : decode cX1_isToldBy 42 = .ok (.goto (-40), 3) := by decide +kernel
theorem dX1_isToldBy_45 : decode cX1_isToldBy 45 = .ok (.iconst 1, 1) := by decide +kernel
theorem dX1_isToldBy_46 : decode cX1_isToldBy 46 = .ok (.ireturn, 1) := by decide +kernel
set_option maxRecDepth 20000 in
theorem ggX1_isUnlikeThoseBehind_X1_lives : GoodIn wsX1_isUnlikeThoseBehind wsX1_lives := goodIn_r _ [6, 7, 8, 9, 10, 13, 14, 15, 16, 17, 18] (by decide +kernel) (by decide +kernel)
set_option maxRecDepth 20000 in
theorem gX1_isUnlikeThoseBehind_X1_lives : GoodIn wsX1_isUnlikeThoseBehind (wsV RX1 57 RX1 yX1_lives wsX1_lives) := goodIn_app (goodIn_of _ (by decide +kernel)) ggX1_isUnlikeThoseBehind_X1_lives
set_option maxRecDepth 20000 in
theorem ggX1_isUnlikeThoseBehind_X7_at : GoodIn wsX1_isUnlikeThoseBehind wsX7_at := goodIn_r _ [12] (by decide +kernel) (by decide +kernel)
set_option maxRecDepth 20000 in
theorem gX1_isUnlikeThoseBehind_X7_at_n39 : GoodIn wsX1_isUnlikeThoseBehind (wsX7_at) := ggX1_isUnlikeThoseBehind_X7_at
theorem dX1_isUnlikeThoseBehind_0 : decode cX1_isUnlikeThoseBehind 0 = .ok (.iload_n 1, 1) := by decide +kernel
theorem dX1_isUnlikeThoseBehind_1 : decode cX1_isUnlikeThoseBehind 1 = .ok (.iconst 1, 1) := by decide +kernel
theorem dX1_isUnlikeThoseBehind_2 : decode cX1_isUnlikeThoseBehind 2 = .ok (.iadd, 1) := by decide +kernel
theorem dX1_isUnlikeThoseBehind_3 : decode cX1_isUnlikeThoseBehind 3 = .ok (.istore_n 3, 1) := by decide +kernel
theorem dX1_isUnlikeThoseBehind_4 : decode cX1_isUnlikeThoseBehind 4 = .ok (.iload_n 3, 1) := by decide +kernel
theorem dX1_isUnlikeThoseBehind_5 : decode cX1_isUnlikeThoseBehind 5 = .ok (.bipush 8, 2) := by decide +kernel
theorem dX1_isUnlikeThoseBehind_7 : decode cX1_isUnlikeThoseBehind 7 = .ok (.if_icmp .ge 41, 3) := by decide +kernel
theorem dX1_isUnlikeThoseBehind_10 : decode cX1_isUnlikeThoseBehind 10 = .ok (.aload_n 0, 1) := by decide +kernel
theorem dX1_isUnlikeThoseBehind_11 : decode cX1_isUnlikeThoseBehind 11 = .ok (.iload_n 3, 1) := by decide +kernel
theorem dX1_isUnlikeThoseBehind_12 : decode cX1_isUnlikeThoseBehind 12 = .ok (.invokevirtual 57, 3) := by decide +kernel
theorem dX1_isUnlikeThoseBehind_15 : decode cX1_isUnlikeThoseBehind 15 = .ok (.ifCond .eq 27, 3) := by decide +kernel
theorem dX1_isUnlikeThoseBehind_18 : decode cX1_isUnlikeThoseBehind 18 = .ok (.aload_n 0, 1) := by decide +kernel
theorem dX1_isUnlikeThoseBehind_19 : decode cX1_isUnlikeThoseBehind 19 = .ok (.getfield 9, 3) := by decide +kernel
theorem dX1_isUnlikeThoseBehind_22 : decode cX1_isUnlikeThoseBehind 22 = .ok (.iload_n 1, 1) := by decide +kernel
theorem dX1_isUnlikeThoseBehind_23 : decode cX1_isUnlikeThoseBehind 23 = .ok (.invokestatic 39, 3) := by decide +kernel
theorem dX1_isUnlikeThoseBehind_26 : decode cX1_isUnlikeThoseBehind 26 = .ok (.aload_n 0, 1) := by decide +kernel
theorem dX1_isUnlikeThoseBehind_27 : decode cX1_isUnlikeThoseBehind 27 = .ok (.getfield 9, 3) := by decide +kernel
theorem dX1_isUnlikeThoseBehind_30 : decode cX1_isUnlikeThoseBehind 30 = .ok (.iload_n 3, 1) := by decide +kernel
theorem dX1_isUnlikeThoseBehind_31 : decode cX1_isUnlikeThoseBehind 31 = .ok (.invokestatic 39, 3) := by decide +kernel
theorem dX1_isUnlikeThoseBehind_34 : decode cX1_isUnlikeThoseBehind 34 = .ok (.ixor, 1) := by decide +kernel
theorem dX1_isUnlikeThoseBehind_35 : decode cX1_isUnlikeThoseBehind 35 = .ok (.iload_n 2, 1) := by decide +kernel
theorem dX1_isUnlikeThoseBehind_36 : decode cX1_isUnlikeThoseBehind 36 = .ok (.iand, 1) := by decide +kernel
theorem dX1_isUnlikeThoseBehind_37 : decode cX1_isUnlikeThoseBehind 37 = .ok (.ifCond .ne 5, 3) := by decide +kernel
theorem dX1_isUnlikeThoseBehind_40 : decode cX1_isUnlikeThoseBehind 40 = .ok (.iconst 0, 1) := by decide +kernel
theorem dX1_isUnlikeThoseBehind_41 : decode cX1_isUnlikeThoseBehind 41 = .ok (.ireturn, 1) := by decide +kernel
theorem dX1_isUnlikeThoseBehind_42 : decode cX1_isUnlikeThoseBehind 42 = .ok (.iinc 3 1, 3) := by decide +kernel
theorem dX1_isUnlikeThoseBehind_45 : decode cX1_isUnlikeThoseBehind 45 = .ok (.goto (-41), 3) := by decide +kernel
theorem dX1_isUnlikeThoseBehind_48 : decode cX1_isUnlikeThoseBehind 48 = .ok (.iconst 1, 1) := by decide +kernel
theorem dX1_isUnlikeThoseBehind_49 : decode cX1_isUnlikeThoseBehind 49 = .ok (.ireturn, 1) := by decide +kernel
theorem dX2_init_0 : decode cX2_init 0 = .ok (.aload_n 0, 1) := by decide +kernel
theorem dX2_init_1 : decode cX2_init 1 = .ok (.invokespecial 3, 3) := by decide +kernel
theorem dX2_init_4 : decode cX2_init 4 = .ok (.aload_n 0, 1) := by decide +kernel
theorem dX2_init_5 : decode cX2_init 5 = .ok (.bipush 8, 2) := by decide +kernel
theorem dX2_init_7 : decode cX2_init 7 = .ok (.newarray .int, 2) := by decide +kernel
theorem dX2_init_9 : decode cX2_init 9 = .ok (.putfield 9, 3) := by decide +kernel
theorem dX2_init_12 : decode cX2_init 12 = .ok (.aload_n 0, 1) := by decide +kernel
theorem dX2_init_13 : decode cX2_init 13 = .ok (.bipush 8, 2) := by decide +kernel
theorem dX2_init_15 : decode cX2_init 15 = .ok (.newarray .int, 2) := by decide +kernel
theorem dX2_init_17 : decode cX2_init 17 = .ok (.putfield 15, 3) := by decide +kernel
theorem dX2_init_20 : decode cX2_init 20 = .ok (.aload_n 0, 1) := by decide +kernel
theorem dX2_init_21 : decode cX2_init 21 = .ok (.bipush 8, 2) := by decide +kernel
theorem dX2_init_23 : decode cX2_init 23 = .ok (.newarray .int, 2) := by decide +kernel
theorem dX2_init_25 : decode cX2_init 25 = .ok (.putfield 18, 3) := by decide +kernel
theorem dX2_init_28 : decode cX2_init 28 = .ok (.aload_n 0, 1) := by decide +kernel
theorem dX2_init_29 : decode cX2_init 29 = .ok (.bipush 8, 2) := by decide +kernel
theorem dX2_init_31 : decode cX2_init 31 = .ok (.newarray .int, 2) := by decide +kernel
theorem dX2_init_33 : decode cX2_init 33 = .ok (.putfield 21, 3) := by decide +kernel
theorem dX2_init_36 : decode cX2_init 36 = .ok (.aload_n 0, 1) := by decide +kernel
theorem dX2_init_37 : decode cX2_init 37 = .ok (.bipush 10, 2) := by decide +kernel
theorem dX2_init_39 : decode cX2_init 39 = .ok (.newarray .int, 2) := by decide +kernel
theorem dX2_init_41 : decode cX2_init 41 = .ok (.putfield 24, 3) := by decide +kernel
theorem dX2_init_44 : decode cX2_init 44 = .ok (.aload_n 0, 1) := by decide +kernel
theorem dX2_init_45 : decode cX2_init 45 = .ok (.bipush 10, 2) := by decide +kernel
theorem dX2_init_47 : decode cX2_init 47 = .ok (.newarray .int, 2) := by decide +kernel
theorem dX2_init_49 : decode cX2_init 49 = .ok (.putfield 27, 3) := by decide +kernel
theorem dX2_init_52 : decode cX2_init 52 = .ok (.aload_n 0, 1) := by decide +kernel
theorem dX2_init_53 : decode cX2_init 53 = .ok (.bipush 10, 2) := by decide +kernel
theorem dX2_init_55 : decode cX2_init 55 = .ok (.newarray .int, 2) := by decide +kernel
theorem dX2_init_57 : decode cX2_init 57 = .ok (.putfield 30, 3) := by decide +kernel
theorem dX2_init_60 : decode cX2_init 60 = .ok (.return_, 1) := by decide +kernel
set_option maxRecDepth 20000 in
theorem ggX2_clear_X7_put : GoodIn wsX2_clear wsX7_put := goodIn_r _ [9] (by decide +kernel) (by decide +kernel)
set_option maxRecDepth 20000 in
theorem gX2_clear_X7_put_n43 : GoodIn wsX2_clear (wsX7_put) := ggX2_clear_X7_put
theorem dX2_clear_0 : decode cX2_clear 0 = .ok (.aload_n 0, 1) := by decide +kernel
theorem dX2_clear_1 : decode cX2_clear 1 = .ok (.iconst 0, 1) := by decide +kernel
theorem dX2_clear_2 : decode cX2_clear 2 = .ok (.putfield 33, 3) := by decide +kernel
theorem dX2_clear_5 : decode cX2_clear 5 = .ok (.aload_n 0, 1) := by decide +kernel
theorem dX2_clear_6 : decode cX2_clear 6 = .ok (.iconst 0, 1) := by decide +kernel
theorem dX2_clear_7 : decode cX2_clear 7 = .ok (.putfield 37, 3) := by decide +kernel
theorem dX2_clear_10 : decode cX2_clear 10 = .ok (.aload_n 0, 1) := by decide +kernel
theorem dX2_clear_11 : decode cX2_clear 11 = .ok (.iconst 0, 1) := by decide +kernel
theorem dX2_clear_12 : decode cX2_clear 12 = .ok (.putfield 40, 3) := by decide +kernel
theorem dX2_clear_15 : decode cX2_clear 15 = .ok (.iconst 0, 1) := by decide +kernel
theorem dX2_clear_16 : decode cX2_clear 16 = .ok (.istore_n 1, 1) := by decide +kernel
theorem dX2_clear_17 : decode cX2_clear 17 = .ok (.iload_n 1, 1) := by decide +kernel
theorem dX2_clear_18 : decode cX2_clear 18 = .ok (.bipush 8, 2) := by decide +kernel
theorem dX2_clear_20 : decode cX2_clear 20 = .ok (.if_icmp .ge 37, 3) := by decide +kernel
theorem dX2_clear_23 : decode cX2_clear 23 = .ok (.aload_n 0, 1) := by decide +kernel
theorem dX2_clear_24 : decode cX2_clear 24 = .ok (.getfield 15, 3) := by decide +kernel
theorem dX2_clear_27 : decode cX2_clear 27 = .ok (.iload_n 1, 1) := by decide +kernel
theorem dX2_clear_28 : decode cX2_clear 28 = .ok (.iconst 0, 1) := by decide +kernel
theorem dX2_clear_29 : decode cX2_clear 29 = .ok (.invokestatic 43, 3) := by decide +kernel
theorem dX2_clear_32 : decode cX2_clear 32 = .ok (.aload_n 0, 1) := by decide +kernel
theorem dX2_clear_33 : decode cX2_clear 33 = .ok (.getfield 18, 3) := by decide +kernel
theorem dX2_clear_36 : decode cX2_clear 36 = .ok (.iload_n 1, 1) := by decide +kernel
theorem dX2_clear_37 : decode cX2_clear 37 = .ok (.iconst 0, 1) := by decide +kernel
theorem dX2_clear_38 : decode cX2_clear 38 = .ok (.invokestatic 43, 3) := by decide +kernel
theorem dX2_clear_41 : decode cX2_clear 41 = .ok (.aload_n 0, 1) := by decide +kernel
theorem dX2_clear_42 : decode cX2_clear 42 = .ok (.getfield 21, 3) := by decide +kernel
theorem dX2_clear_45 : decode cX2_clear 45 = .ok (.iload_n 1, 1) := by decide +kernel
theorem dX2_clear_46 : decode cX2_clear 46 = .ok (.bipush 9, 2) := by decide +kernel
theorem dX2_clear_48 : decode cX2_clear 48 = .ok (.invokestatic 43, 3) := by decide +kernel
theorem dX2_clear_51 : decode cX2_clear 51 = .ok (.iinc 1 1, 3) := by decide +kernel
theorem dX2_clear_54 : decode cX2_clear 54 = .ok (.goto (-37), 3) := by decide +kernel
theorem dX2_clear_57 : decode cX2_clear 57 = .ok (.return_, 1) := by decide +kernel
set_option maxRecDepth 20000 in
theorem ggX2_addPerson_X7_put : GoodIn wsX2_addPerson wsX7_put := goodIn_r _ [8] (by decide +kernel) (by decide +kernel)
set_option maxRecDepth 20000 in
theorem gX2_addPerson_X7_put_n43 : GoodIn wsX2_addPerson (wsX7_put) := ggX2_addPerson_X7_put
theorem dX2_addPerson_0 : decode cX2_addPerson 0 = .ok (.aload_n 0, 1) := by decide +kernel
theorem dX2_addPerson_1 : decode cX2_addPerson 1 = .ok (.getfield 9, 3) := by decide +kernel
theorem dX2_addPerson_4 : decode cX2_addPerson 4 = .ok (.aload_n 0, 1) := by decide +kernel
theorem dX2_addPerson_5 : decode cX2_addPerson 5 = .ok (.getfield 37, 3) := by decide +kernel
theorem dX2_addPerson_8 : decode cX2_addPerson 8 = .ok (.iload_n 1, 1) := by decide +kernel
theorem dX2_addPerson_9 : decode cX2_addPerson 9 = .ok (.invokestatic 43, 3) := by decide +kernel
theorem dX2_addPerson_12 : decode cX2_addPerson 12 = .ok (.aload_n 0, 1) := by decide +kernel
theorem dX2_addPerson_13 : decode cX2_addPerson 13 = .ok (.getfield 15, 3) := by decide +kernel
theorem dX2_addPerson_16 : decode cX2_addPerson 16 = .ok (.aload_n 0, 1) := by decide +kernel
theorem dX2_addPerson_17 : decode cX2_addPerson 17 = .ok (.getfield 37, 3) := by decide +kernel
theorem dX2_addPerson_20 : decode cX2_addPerson 20 = .ok (.iload_n 2, 1) := by decide +kernel
theorem dX2_addPerson_21 : decode cX2_addPerson 21 = .ok (.invokestatic 43, 3) := by decide +kernel
theorem dX2_addPerson_24 : decode cX2_addPerson 24 = .ok (.aload_n 0, 1) := by decide +kernel
theorem dX2_addPerson_25 : decode cX2_addPerson 25 = .ok (.getfield 18, 3) := by decide +kernel
theorem dX2_addPerson_28 : decode cX2_addPerson 28 = .ok (.aload_n 0, 1) := by decide +kernel
theorem dX2_addPerson_29 : decode cX2_addPerson 29 = .ok (.getfield 37, 3) := by decide +kernel
theorem dX2_addPerson_32 : decode cX2_addPerson 32 = .ok (.iload_n 3, 1) := by decide +kernel
theorem dX2_addPerson_33 : decode cX2_addPerson 33 = .ok (.invokestatic 43, 3) := by decide +kernel
theorem dX2_addPerson_36 : decode cX2_addPerson 36 = .ok (.aload_n 0, 1) := by decide +kernel
theorem dX2_addPerson_37 : decode cX2_addPerson 37 = .ok (.getfield 21, 3) := by decide +kernel
theorem dX2_addPerson_40 : decode cX2_addPerson 40 = .ok (.aload_n 0, 1) := by decide +kernel
theorem dX2_addPerson_41 : decode cX2_addPerson 41 = .ok (.getfield 37, 3) := by decide +kernel
theorem dX2_addPerson_44 : decode cX2_addPerson 44 = .ok (.iload 4, 2) := by decide +kernel
theorem dX2_addPerson_46 : decode cX2_addPerson 46 = .ok (.invokestatic 43, 3) := by decide +kernel
theorem dX2_addPerson_49 : decode cX2_addPerson 49 = .ok (.aload_n 0, 1) := by decide +kernel
theorem dX2_addPerson_50 : decode cX2_addPerson 50 = .ok (.dup, 1) := by decide +kernel
theorem dX2_addPerson_51 : decode cX2_addPerson 51 = .ok (.getfield 37, 3) := by decide +kernel
theorem dX2_addPerson_54 : decode cX2_addPerson 54 = .ok (.iconst 1, 1) := by decide +kernel
theorem dX2_addPerson_55 : decode cX2_addPerson 55 = .ok (.iadd, 1) := by decide +kernel
theorem dX2_addPerson_56 : decode cX2_addPerson 56 = .ok (.putfield 37, 3) := by decide +kernel
theorem dX2_addPerson_59 : decode cX2_addPerson 59 = .ok (.return_, 1) := by decide +kernel
set_option maxRecDepth 20000 in
theorem ggX2_addDay_X7_put : GoodIn wsX2_addDay wsX7_put := goodIn_r _ [7] (by decide +kernel) (by decide +kernel)
set_option maxRecDepth 20000 in
theorem gX2_addDay_X7_put_n43 : GoodIn wsX2_addDay (wsX7_put) := ggX2_addDay_X7_put
theorem dX2_addDay_0 : decode cX2_addDay 0 = .ok (.aload_n 0, 1) := by decide +kernel
theorem dX2_addDay_1 : decode cX2_addDay 1 = .ok (.getfield 24, 3) := by decide +kernel
theorem dX2_addDay_4 : decode cX2_addDay 4 = .ok (.aload_n 0, 1) := by decide +kernel
theorem dX2_addDay_5 : decode cX2_addDay 5 = .ok (.getfield 40, 3) := by decide +kernel
theorem dX2_addDay_8 : decode cX2_addDay 8 = .ok (.iload_n 1, 1) := by decide +kernel
theorem dX2_addDay_9 : decode cX2_addDay 9 = .ok (.invokestatic 43, 3) := by decide +kernel
theorem dX2_addDay_12 : decode cX2_addDay 12 = .ok (.aload_n 0, 1) := by decide +kernel
theorem dX2_addDay_13 : decode cX2_addDay 13 = .ok (.getfield 27, 3) := by decide +kernel
theorem dX2_addDay_16 : decode cX2_addDay 16 = .ok (.aload_n 0, 1) := by decide +kernel
theorem dX2_addDay_17 : decode cX2_addDay 17 = .ok (.getfield 40, 3) := by decide +kernel
theorem dX2_addDay_20 : decode cX2_addDay 20 = .ok (.iload_n 2, 1) := by decide +kernel
theorem dX2_addDay_21 : decode cX2_addDay 21 = .ok (.invokestatic 43, 3) := by decide +kernel
theorem dX2_addDay_24 : decode cX2_addDay 24 = .ok (.aload_n 0, 1) := by decide +kernel
theorem dX2_addDay_25 : decode cX2_addDay 25 = .ok (.getfield 30, 3) := by decide +kernel
theorem dX2_addDay_28 : decode cX2_addDay 28 = .ok (.aload_n 0, 1) := by decide +kernel
theorem dX2_addDay_29 : decode cX2_addDay 29 = .ok (.getfield 40, 3) := by decide +kernel
theorem dX2_addDay_32 : decode cX2_addDay 32 = .ok (.iload_n 3, 1) := by decide +kernel
theorem dX2_addDay_33 : decode cX2_addDay 33 = .ok (.invokestatic 43, 3) := by decide +kernel
theorem dX2_addDay_36 : decode cX2_addDay 36 = .ok (.aload_n 0, 1) := by decide +kernel
theorem dX2_addDay_37 : decode cX2_addDay 37 = .ok (.dup, 1) := by decide +kernel
theorem dX2_addDay_38 : decode cX2_addDay 38 = .ok (.getfield 40, 3) := by decide +kernel
theorem dX2_addDay_41 : decode cX2_addDay 41 = .ok (.iconst 1, 1) := by decide +kernel
theorem dX2_addDay_42 : decode cX2_addDay 42 = .ok (.iadd, 1) := by decide +kernel
theorem dX2_addDay_43 : decode cX2_addDay 43 = .ok (.putfield 40, 3) := by decide +kernel
theorem dX2_addDay_46 : decode cX2_addDay 46 = .ok (.return_, 1) := by decide +kernel
theorem dX2_stands_0 : decode cX2_stands 0 = .ok (.aload_n 0, 1) := by decide +kernel
theorem dX2_stands_1 : decode cX2_stands 1 = .ok (.getfield 33, 3) := by decide +kernel
theorem dX2_stands_4 : decode cX2_stands 4 = .ok (.ifCond .le 7, 3) := by decide +kernel
theorem dX2_stands_7 : decode cX2_stands 7 = .ok (.iconst 1, 1) := by decide +kernel
theorem dX2_stands_8 : decode cX2_stands 8 = .ok (.goto 4, 3) := by decide +kernel
theorem dX2_stands_11 : decode cX2_stands 11 = .ok (.iconst 0, 1) := by decide +kernel
theorem dX2_stands_12 : decode cX2_stands 12 = .ok (.ireturn, 1) := by decide +kernel
theorem dX2_hasDay_0 : decode cX2_hasDay 0 = .ok (.iload_n 1, 1) := by decide +kernel
theorem dX2_hasDay_1 : decode cX2_hasDay 1 = .ok (.ifCond .lt 15, 3) := by decide +kernel
theorem dX2_hasDay_4 : decode cX2_hasDay 4 = .ok (.iload_n 1, 1) := by decide +kernel
theorem dX2_hasDay_5 : decode cX2_hasDay 5 = .ok (.aload_n 0, 1) := by decide +kernel
theorem dX2_hasDay_6 : decode cX2_hasDay 6 = .ok (.getfield 40, 3) := by decide +kernel
theorem dX2_hasDay_9 : decode cX2_hasDay 9 = .ok (.if_icmp .ge 7, 3) := by decide +kernel
theorem dX2_hasDay_12 : decode cX2_hasDay 12 = .ok (.iconst 1, 1) := by decide +kernel
theorem dX2_hasDay_13 : decode cX2_hasDay 13 = .ok (.goto 4, 3) := by decide +kernel
theorem dX2_hasDay_16 : decode cX2_hasDay 16 = .ok (.iconst 0, 1) := by decide +kernel
theorem dX2_hasDay_17 : decode cX2_hasDay 17 = .ok (.ireturn, 1) := by decide +kernel
theorem dX2_payAt_0 : decode cX2_payAt 0 = .ok (.aload_n 0, 1) := by decide +kernel
theorem dX2_payAt_1 : decode cX2_payAt 1 = .ok (.getfield 33, 3) := by decide +kernel
theorem dX2_payAt_4 : decode cX2_payAt 4 = .ok (.iload_n 1, 1) := by decide +kernel
theorem dX2_payAt_5 : decode cX2_payAt 5 = .ok (.ishr, 1) := by decide +kernel
theorem dX2_payAt_6 : decode cX2_payAt 6 = .ok (.ireturn, 1) := by decide +kernel
set_option maxRecDepth 20000 in
theorem ggX2_weatherOn_X2_onDay : GoodIn wsX2_weatherOn wsX2_onDay := goodIn_r _ [6, 7, 8, 9, 10, 11, 12, 13, 14, 15, 16, 17, 18, 19, 20] (by decide +kernel) (by decide +kernel)
set_option maxRecDepth 20000 in
theorem gX2_weatherOn_X2_onDay : GoodIn wsX2_weatherOn (wsV RX2 47 RX2 yX2_onDay wsX2_onDay) := goodIn_app (goodIn_of _ (by decide +kernel)) ggX2_weatherOn_X2_onDay
theorem dX2_weatherOn_0 : decode cX2_weatherOn 0 = .ok (.aload_n 0, 1) := by decide +kernel
theorem dX2_weatherOn_1 : decode cX2_weatherOn 1 = .ok (.aload_n 0, 1) := by decide +kernel
theorem dX2_weatherOn_2 : decode cX2_weatherOn 2 = .ok (.getfield 24, 3) := by decide +kernel
theorem dX2_weatherOn_5 : decode cX2_weatherOn 5 = .ok (.iload_n 1, 1) := by decide +kernel
theorem dX2_weatherOn_6 : decode cX2_weatherOn 6 = .ok (.invokevirtual 47, 3) := by decide +kernel
theorem dX2_weatherOn_9 : decode cX2_weatherOn 9 = .ok (.ireturn, 1) := by decide +kernel
set_option maxRecDepth 20000 in
theorem ggX2_hourOn_X2_onDay : GoodIn wsX2_hourOn wsX2_onDay := goodIn_r _ [6, 7, 8, 9, 10, 11, 12, 13, 14, 15, 16, 17, 18, 19, 20] (by decide +kernel) (by decide +kernel)
set_option maxRecDepth 20000 in
theorem gX2_hourOn_X2_onDay : GoodIn wsX2_hourOn (wsV RX2 47 RX2 yX2_onDay wsX2_onDay) := goodIn_app (goodIn_of _ (by decide +kernel)) ggX2_hourOn_X2_onDay
theorem dX2_hourOn_0 : decode cX2_hourOn 0 = .ok (.aload_n 0, 1) := by decide +kernel
theorem dX2_hourOn_1 : decode cX2_hourOn 1 = .ok (.aload_n 0, 1) := by decide +kernel
theorem dX2_hourOn_2 : decode cX2_hourOn 2 = .ok (.getfield 27, 3) := by decide +kernel
theorem dX2_hourOn_5 : decode cX2_hourOn 5 = .ok (.iload_n 1, 1) := by decide +kernel
theorem dX2_hourOn_6 : decode cX2_hourOn 6 = .ok (.invokevirtual 47, 3) := by decide +kernel
theorem dX2_hourOn_9 : decode cX2_hourOn 9 = .ok (.ireturn, 1) := by decide +kernel
set_option maxRecDepth 20000 in
theorem ggX2_dangerOn_X2_onDay : GoodIn wsX2_dangerOn wsX2_onDay := goodIn_r _ [6, 7, 8, 9, 10, 11, 12, 13, 14, 15, 16, 17, 18, 19, 20] (by decide +kernel) (by decide +kernel)
set_option maxRecDepth 20000 in
theorem gX2_dangerOn_X2_onDay : GoodIn wsX2_dangerOn (wsV RX2 47 RX2 yX2_onDay wsX2_onDay) := goodIn_app (goodIn_of _ (by decide +kernel)) ggX2_dangerOn_X2_onDay
theorem dX2_dangerOn_0 : decode cX2_dangerOn 0 = .ok (.aload_n 0, 1) := by decide +kernel
theorem dX2_dangerOn_1 : decode cX2_dangerOn 1 = .ok (.aload_n 0, 1) := by decide +kernel
theorem dX2_dangerOn_2 : decode cX2_dangerOn 2 = .ok (.getfield 30, 3) := by decide +kernel
theorem dX2_dangerOn_5 : decode cX2_dangerOn 5 = .ok (.iload_n 1, 1) := by decide +kernel
theorem dX2_dangerOn_6 : decode cX2_dangerOn 6 = .ok (.invokevirtual 47, 3) := by decide +kernel
theorem dX2_dangerOn_9 : decode cX2_dangerOn 9 = .ok (.ireturn, 1) := by decide +kernel
set_option maxRecDepth 20000 in
theorem ggX2_onDay_X7_at : GoodIn wsX2_onDay wsX7_at := goodIn_r _ [4] (by decide +kernel) (by decide +kernel)
set_option maxRecDepth 20000 in
theorem gX2_onDay_X7_at_n51 : GoodIn wsX2_onDay (wsX7_at) := ggX2_onDay_X7_at
theorem dX2_onDay_0 : decode cX2_onDay 0 = .ok (.aload_n 0, 1) := by decide +kernel
theorem dX2_onDay_1 : decode cX2_onDay 1 = .ok (.getfield 40, 3) := by decide +kernel
theorem dX2_onDay_4 : decode cX2_onDay 4 = .ok (.ifCond .le 16, 3) := by decide +kernel
theorem dX2_onDay_7 : decode cX2_onDay 7 = .ok (.aload_n 1, 1) := by decide +kernel
theorem dX2_onDay_8 : decode cX2_onDay 8 = .ok (.iload_n 2, 1) := by decide +kernel
theorem dX2_onDay_9 : decode cX2_onDay 9 = .ok (.aload_n 0, 1) := by decide +kernel
theorem dX2_onDay_10 : decode cX2_onDay 10 = .ok (.getfield 40, 3) := by decide +kernel
theorem dX2_onDay_13 : decode cX2_onDay 13 = .ok (.irem, 1) := by decide +kernel
theorem dX2_onDay_14 : decode cX2_onDay 14 = .ok (.invokestatic 51, 3) := by decide +kernel
theorem dX2_onDay_17 : decode cX2_onDay 17 = .ok (.goto 4, 3) := by decide +kernel
theorem dX2_onDay_20 : decode cX2_onDay 20 = .ok (.iconst 0, 1) := by decide +kernel
theorem dX2_onDay_21 : decode cX2_onDay 21 = .ok (.ireturn, 1) := by decide +kernel
set_option maxRecDepth 20000 in
theorem ggX2_goesOut_X7_at : GoodIn wsX2_goesOut wsX7_at := goodIn_r _ [6] (by decide +kernel) (by decide +kernel)
set_option maxRecDepth 20000 in
theorem gX2_goesOut_X7_at_n51 : GoodIn wsX2_goesOut (wsX7_at) := ggX2_goesOut_X7_at
set_option maxRecDepth 20000 in
theorem ggX2_goesOut_X7_holds : GoodIn wsX2_goesOut wsX7_holds := goodIn_r _ [8] (by decide +kernel) (by decide +kernel)
set_option maxRecDepth 20000 in
theorem gX2_goesOut_X7_holds_n54 : GoodIn wsX2_goesOut (wsX7_holds) := ggX2_goesOut_X7_holds
theorem dX2_goesOut_0 : decode cX2_goesOut 0 = .ok (.aload_n 0, 1) := by decide +kernel
theorem dX2_goesOut_1 : decode cX2_goesOut 1 = .ok (.getfield 15, 3) := by decide +kernel
theorem dX2_goesOut_4 : decode cX2_goesOut 4 = .ok (.iload_n 1, 1) := by decide +kernel
theorem dX2_goesOut_5 : decode cX2_goesOut 5 = .ok (.invokestatic 51, 3) := by decide +kernel
theorem dX2_goesOut_8 : decode cX2_goesOut 8 = .ok (.iload_n 2, 1) := by decide +kernel
theorem dX2_goesOut_9 : decode cX2_goesOut 9 = .ok (.invokestatic 54, 3) := by decide +kernel
theorem dX2_goesOut_12 : decode cX2_goesOut 12 = .ok (.ifCond .ne 35, 3) := by decide +kernel
theorem dX2_goesOut_15 : decode cX2_goesOut 15 = .ok (.aload_n 0, 1) := by decide +kernel
theorem dX2_goesOut_16 : decode cX2_goesOut 16 = .ok (.getfield 18, 3) := by decide +kernel
theorem dX2_goesOut_19 : decode cX2_goesOut 19 = .ok (.iload_n 1, 1) := by decide +kernel
theorem dX2_goesOut_20 : decode cX2_goesOut 20 = .ok (.invokestatic 51, 3) := by decide +kernel
theorem dX2_goesOut_23 : decode cX2_goesOut 23 = .ok (.iload_n 3, 1) := by decide +kernel
theorem dX2_goesOut_24 : decode cX2_goesOut 24 = .ok (.invokestatic 54, 3) := by decide +kernel
theorem dX2_goesOut_27 : decode cX2_goesOut 27 = .ok (.ifCond .ne 20, 3) := by decide +kernel
theorem dX2_goesOut_30 : decode cX2_goesOut 30 = .ok (.iload 4, 2) := by decide +kernel
theorem dX2_goesOut_32 : decode cX2_goesOut 32 = .ok (.aload_n 0, 1) := by decide +kernel
theorem dX2_goesOut_33 : decode cX2_goesOut 33 = .ok (.getfield 21, 3) := by decide +kernel
theorem dX2_goesOut_36 : decode cX2_goesOut 36 = .ok (.iload_n 1, 1) := by decide +kernel
theorem dX2_goesOut_37 : decode cX2_goesOut 37 = .ok (.invokestatic 51, 3) := by decide +kernel
theorem dX2_goesOut_40 : decode cX2_goesOut 40 = .ok (.if_icmp .gt 7, 3) := by decide +kernel
theorem dX2_goesOut_43 : decode cX2_goesOut 43 = .ok (.iconst 1, 1) := by decide +kernel
theorem dX2_goesOut_44 : decode cX2_goesOut 44 = .ok (.goto 4, 3) := by decide +kernel
theorem dX2_goesOut_47 : decode cX2_goesOut 47 = .ok (.iconst 0, 1) := by decide +kernel
theorem dX2_goesOut_48 : decode cX2_goesOut 48 = .ok (.ireturn, 1) := by decide +kernel
set_option maxRecDepth 20000 in
theorem ggX2_goesOutOn_X2_weatherOn : GoodIn wsX2_goesOutOn wsX2_weatherOn := goodIn_r _ [5, 6, 7, 8, 9, 4, 10, 11, 12, 13, 14, 34, 35, 36, 37, 38, 39, 40, 41, 42, 43] (by decide +kernel) (by decide +kernel)
set_option maxRecDepth 20000 in
theorem gX2_goesOutOn_X2_weatherOn : GoodIn wsX2_goesOutOn (wsV RX2 58 RX2 yX2_weatherOn wsX2_weatherOn) := goodIn_app (goodIn_of _ (by decide +kernel)) ggX2_goesOutOn_X2_weatherOn
set_option maxRecDepth 20000 in
theorem ggX2_goesOutOn_X2_hourOn : GoodIn wsX2_goesOutOn wsX2_hourOn := goodIn_r _ [18, 19, 7, 8, 9, 4, 10, 11, 12, 13, 14, 34, 35, 36, 37, 38, 39, 40, 41, 42, 43] (by decide +kernel) (by decide +kernel)
set_option maxRecDepth 20000 in
theorem gX2_goesOutOn_X2_hourOn : GoodIn wsX2_goesOutOn (wsV RX2 62 RX2 yX2_hourOn wsX2_hourOn) := goodIn_app (goodIn_of _ (by decide +kernel)) ggX2_goesOutOn_X2_hourOn
set_option maxRecDepth 20000 in
theorem ggX2_goesOutOn_X2_dangerOn : GoodIn wsX2_goesOutOn wsX2_dangerOn := goodIn_r _ [23, 24, 7, 8, 9, 4, 10, 11, 12, 13, 14, 34, 35, 36, 37, 38, 39, 40, 41, 42, 43] (by decide +kernel) (by decide +kernel)
set_option maxRecDepth 20000 in
theorem gX2_goesOutOn_X2_dangerOn : GoodIn wsX2_goesOutOn (wsV RX2 65 RX2 yX2_dangerOn wsX2_dangerOn) := goodIn_app (goodIn_of _ (by decide +kernel)) ggX2_goesOutOn_X2_dangerOn
set_option maxRecDepth 20000 in
theorem ggX2_goesOutOn_X2_goesOut : GoodIn wsX2_goesOutOn wsX2_goesOut := goodIn_r _ [28, 29, 30, 31, 12, 13, 14, 32, 33, 34, 35, 36, 37, 38, 39, 40, 41, 42, 43] (by decide +kernel) (by decide +kernel)
set_option maxRecDepth 20000 in
theorem gX2_goesOutOn_X2_goesOut : GoodIn wsX2_goesOutOn (wsV RX2 68 RX2 yX2_goesOut wsX2_goesOut) := goodIn_app (goodIn_of _ (by decide +kernel)) ggX2_goesOutOn_X2_goesOut
theorem dX2_goesOutOn_0 : decode cX2_goesOutOn 0 = .ok (.aload_n 0, 1) := by decide +kernel
theorem dX2_goesOutOn_1 : decode cX2_goesOutOn 1 = .ok (.iload_n 1, 1) := by decide +kernel
theorem dX2_goesOutOn_2 : decode cX2_goesOutOn 2 = .ok (.aload_n 0, 1) := by decide +kernel
theorem dX2_goesOutOn_3 : decode cX2_goesOutOn 3 = .ok (.iload_n 2, 1) := by decide +kernel
theorem dX2_goesOutOn_4 : decode cX2_goesOutOn 4 = .ok (.invokevirtual 58, 3) := by decide +kernel
theorem dX2_goesOutOn_7 : decode cX2_goesOutOn 7 = .ok (.aload_n 0, 1) := by decide +kernel
theorem dX2_goesOutOn_8 : decode cX2_goesOutOn 8 = .ok (.iload_n 2, 1) := by decide +kernel
theorem dX2_goesOutOn_9 : decode cX2_goesOutOn 9 = .ok (.invokevirtual 62, 3) := by decide +kernel
theorem dX2_goesOutOn_12 : decode cX2_goesOutOn 12 = .ok (.aload_n 0, 1) := by decide +kernel
theorem dX2_goesOutOn_13 : decode cX2_goesOutOn 13 = .ok (.iload_n 2, 1) := by decide +kernel
theorem dX2_goesOutOn_14 : decode cX2_goesOutOn 14 = .ok (.invokevirtual 65, 3) := by decide +kernel
theorem dX2_goesOutOn_17 : decode cX2_goesOutOn 17 = .ok (.invokevirtual 68, 3) := by decide +kernel
theorem dX2_goesOutOn_20 : decode cX2_goesOutOn 20 = .ok (.ireturn, 1) := by decide +kernel
set_option maxRecDepth 20000 in
theorem ggX2_goersOn_X2_goesOutOn : GoodIn wsX2_goersOn wsX2_goesOutOn := goodIn_r _ [5, 6, 7, 8, 4, 9, 10, 11, 12, 13, 14, 15, 16, 17, 18, 19, 20, 21, 22, 23, 24, 25, 26, 27, 28, 29, 30, 31, 32, 33, 34, 35, 36, 37, 38, 39, 40, 41, 42, 43, 44, 45, 46, 47] (by decide +kernel) (by decide +kernel)
set_option maxRecDepth 20000 in
theorem gX2_goersOn_X2_goesOutOn : GoodIn wsX2_goersOn (wsV RX2 72 RX2 yX2_goesOutOn wsX2_goesOutOn) := goodIn_app (goodIn_of _ (by decide +kernel)) ggX2_goersOn_X2_goesOutOn
theorem dX2_goersOn_0 : decode cX2_goersOn 0 = .ok (.iconst 0, 1) := by decide +kernel
theorem dX2_goersOn_1 : decode cX2_goersOn 1 = .ok (.istore_n 2, 1) := by decide +kernel
theorem dX2_goersOn_2 : decode cX2_goersOn 2 = .ok (.iconst 0, 1) := by decide +kernel
theorem dX2_goersOn_3 : decode cX2_goersOn 3 = .ok (.istore_n 3, 1) := by decide +kernel
theorem dX2_goersOn_4 : decode cX2_goersOn 4 = .ok (.iload_n 3, 1) := by decide +kernel
theorem dX2_goersOn_5 : decode cX2_goersOn 5 = .ok (.bipush 8, 2) := by decide +kernel
theorem dX2_goersOn_7 : decode cX2_goersOn 7 = .ok (.if_icmp .ge 24, 3) := by decide +kernel
theorem dX2_goersOn_10 : decode cX2_goersOn 10 = .ok (.aload_n 0, 1) := by decide +kernel
theorem dX2_goersOn_11 : decode cX2_goersOn 11 = .ok (.iload_n 3, 1) := by decide +kernel
theorem dX2_goersOn_12 : decode cX2_goersOn 12 = .ok (.iload_n 1, 1) := by decide +kernel
theorem dX2_goersOn_13 : decode cX2_goersOn 13 = .ok (.invokevirtual 72, 3) := by decide +kernel
theorem dX2_goersOn_16 : decode cX2_goersOn 16 = .ok (.ifCond .eq 9, 3) := by decide +kernel
theorem dX2_goersOn_19 : decode cX2_goersOn 19 = .ok (.iload_n 2, 1) := by decide +kernel
theorem dX2_goersOn_20 : decode cX2_goersOn 20 = .ok (.iconst 1, 1) := by decide +kernel
theorem dX2_goersOn_21 : decode cX2_goersOn 21 = .ok (.iload_n 3, 1) := by decide +kernel
theorem dX2_goersOn_22 : decode cX2_goersOn 22 = .ok (.ishl, 1) := by decide +kernel
theorem dX2_goersOn_23 : decode cX2_goersOn 23 = .ok (.ior, 1) := by decide +kernel
theorem dX2_goersOn_24 : decode cX2_goersOn 24 = .ok (.istore_n 2, 1) := by decide +kernel
theorem dX2_goersOn_25 : decode cX2_goersOn 25 = .ok (.iinc 3 1, 3) := by decide +kernel
theorem dX2_goersOn_28 : decode cX2_goersOn 28 = .ok (.goto (-24), 3) := by decide +kernel
theorem dX2_goersOn_31 : decode cX2_goersOn 31 = .ok (.iload_n 2, 1) := by decide +kernel
theorem dX2_goersOn_32 : decode cX2_goersOn 32 = .ok (.ireturn, 1) := by decide +kernel
set_option maxRecDepth 20000 in
theorem ggX3_init_X1_init : GoodIn wsX3_init wsX1_init := goodIn_r _ [11, 12, 2, 3, 13, 14, 15, 16, 17, 18, 19, 20, 21, 22, 23, 24, 25] (by decide +kernel) (by decide +kernel)
set_option maxRecDepth 20000 in
theorem gX3_init_X1_init_n9 : GoodIn wsX3_init (wsX1_init) := ggX3_init_X1_init
theorem dX3_init_0 : decode cX3_init 0 = .ok (.aload_n 0, 1) := by decide +kernel
theorem dX3_init_1 : decode cX3_init 1 = .ok (.invokespecial 1, 3) := by decide +kernel
theorem dX3_init_4 : decode cX3_init 4 = .ok (.aload_n 0, 1) := by decide +kernel
theorem dX3_init_5 : decode cX3_init 5 = .ok (.new 7, 3) := by decide +kernel
theorem dX3_init_8 : decode cX3_init 8 = .ok (.dup, 1) := by decide +kernel
theorem dX3_init_9 : decode cX3_init 9 = .ok (.invokespecial 9, 3) := by decide +kernel
theorem dX3_init_12 : decode cX3_init 12 = .ok (.putfield 10, 3) := by decide +kernel
theorem dX3_init_15 : decode cX3_init 15 = .ok (.aload_n 0, 1) := by decide +kernel
theorem dX3_init_16 : decode cX3_init 16 = .ok (.iconst 0, 1) := by decide +kernel
theorem dX3_init_17 : decode cX3_init 17 = .ok (.putfield 16, 3) := by decide +kernel
theorem dX3_init_20 : decode cX3_init 20 = .ok (.aload_n 0, 1) := by decide +kernel
theorem dX3_init_21 : decode cX3_init 21 = .ok (.iconst 0, 1) := by decide +kernel
theorem dX3_init_22 : decode cX3_init 22 = .ok (.putfield 20, 3) := by decide +kernel
theorem dX3_init_25 : decode cX3_init 25 = .ok (.return_, 1) := by decide +kernel
set_option maxRecDepth 20000 in
theorem ggX4_init_X1_init : GoodIn wsX4_init wsX1_init := goodIn_r _ [11, 12, 2, 3, 13, 14, 15, 16, 17, 18, 19, 23, 24, 25, 26, 27, 28] (by decide +kernel) (by decide +kernel)
set_option maxRecDepth 20000 in
theorem gX4_init_X1_init_n24 : GoodIn wsX4_init (wsX1_init) := ggX4_init_X1_init
theorem dX4_init_0 : decode cX4_init 0 = .ok (.aload_n 0, 1) := by decide +kernel
theorem dX4_init_1 : decode cX4_init 1 = .ok (.invokespecial 3, 3) := by decide +kernel
theorem dX4_init_4 : decode cX4_init 4 = .ok (.aload_n 0, 1) := by decide +kernel
theorem dX4_init_5 : decode cX4_init 5 = .ok (.bipush 20, 2) := by decide +kernel
theorem dX4_init_7 : decode cX4_init 7 = .ok (.anewarray 9, 3) := by decide +kernel
theorem dX4_init_10 : decode cX4_init 10 = .ok (.putfield 11, 3) := by decide +kernel
theorem dX4_init_13 : decode cX4_init 13 = .ok (.aload_n 0, 1) := by decide +kernel
theorem dX4_init_14 : decode cX4_init 14 = .ok (.iconst 0, 1) := by decide +kernel
theorem dX4_init_15 : decode cX4_init 15 = .ok (.putfield 17, 3) := by decide +kernel
theorem dX4_init_18 : decode cX4_init 18 = .ok (.aload_n 0, 1) := by decide +kernel
theorem dX4_init_19 : decode cX4_init 19 = .ok (.iconst 0, 1) := by decide +kernel
theorem dX4_init_20 : decode cX4_init 20 = .ok (.putfield 21, 3) := by decide +kernel
theorem dX4_init_23 : decode cX4_init 23 = .ok (.iconst 0, 1) := by decide +kernel
theorem dX4_init_24 : decode cX4_init 24 = .ok (.istore_n 1, 1) := by decide +kernel
theorem dX4_init_25 : decode cX4_init 25 = .ok (.iload_n 1, 1) := by decide +kernel
theorem dX4_init_26 : decode cX4_init 26 = .ok (.aload_n 0, 1) := by decide +kernel
theorem dX4_init_27 : decode cX4_init 27 = .ok (.getfield 11, 3) := by decide +kernel
theorem dX4_init_30 : decode cX4_init 30 = .ok (.arraylength, 1) := by decide +kernel
theorem dX4_init_31 : decode cX4_init 31 = .ok (.if_icmp .ge 22, 3) := by decide +kernel
theorem dX4_init_34 : decode cX4_init 34 = .ok (.aload_n 0, 1) := by decide +kernel
theorem dX4_init_35 : decode cX4_init 35 = .ok (.getfield 11, 3) := by decide +kernel
theorem dX4_init_38 : decode cX4_init 38 = .ok (.iload_n 1, 1) := by decide +kernel
theorem dX4_init_39 : decode cX4_init 39 = .ok (.new 9, 3) := by decide +kernel
theorem dX4_init_42 : decode cX4_init 42 = .ok (.dup, 1) := by decide +kernel
theorem dX4_init_43 : decode cX4_init 43 = .ok (.invokespecial 24, 3) := by decide +kernel
theorem dX4_init_46 : decode cX4_init 46 = .ok (.aastore, 1) := by decide +kernel
theorem dX4_init_47 : decode cX4_init 47 = .ok (.iinc 1 1, 3) := by decide +kernel
theorem dX4_init_50 : decode cX4_init 50 = .ok (.goto (-25), 3) := by decide +kernel
theorem dX4_init_53 : decode cX4_init 53 = .ok (.return_, 1) := by decide +kernel
theorem dX4_forget_0 : decode cX4_forget 0 = .ok (.aload_n 0, 1) := by decide +kernel
theorem dX4_forget_1 : decode cX4_forget 1 = .ok (.iconst 0, 1) := by decide +kernel
theorem dX4_forget_2 : decode cX4_forget 2 = .ok (.putfield 21, 3) := by decide +kernel
theorem dX4_forget_5 : decode cX4_forget 5 = .ok (.return_, 1) := by decide +kernel
set_option maxRecDepth 20000 in
theorem ggX4_push_X4_ringAt : GoodIn wsX4_push wsX4_ringAt := goodIn_r _ [11, 12, 33, 34, 35] (by decide +kernel) (by decide +kernel)
set_option maxRecDepth 20000 in
theorem gX4_push_X4_ringAt : GoodIn wsX4_push (wsV RX4 25 RX4 yX4_ringAt wsX4_ringAt) := goodIn_app (goodIn_of _ (by decide +kernel)) ggX4_push_X4_ringAt
set_option maxRecDepth 20000 in
theorem ggX4_push_X1_become : GoodIn wsX4_push wsX1_become := goodIn_r _ [17, 18, 19, 20, 21, 22, 23, 24, 25, 26, 16, 27, 28, 29, 30, 31, 32, 36, 37, 38, 39, 40, 41] (by decide +kernel) (by decide +kernel)
set_option maxRecDepth 20000 in
theorem gX4_push_X1_become : GoodIn wsX4_push (wsV RX4 29 RX1 yX1_become wsX1_become) := goodIn_app (goodIn_of _ (by decide +kernel)) ggX4_push_X1_become
theorem dX4_push_0 : decode cX4_push 0 = .ok (.aload_n 0, 1) := by decide +kernel
theorem dX4_push_1 : decode cX4_push 1 = .ok (.aload_n 0, 1) := by decide +kernel
theorem dX4_push_2 : decode cX4_push 2 = .ok (.getfield 17, 3) := by decide +kernel
theorem dX4_push_5 : decode cX4_push 5 = .ok (.invokevirtual 25, 3) := by decide +kernel
theorem dX4_push_8 : decode cX4_push 8 = .ok (.astore_n 2, 1) := by decide +kernel
theorem dX4_push_9 : decode cX4_push 9 = .ok (.aload_n 2, 1) := by decide +kernel
theorem dX4_push_10 : decode cX4_push 10 = .ok (.ifnonnull 4, 3) := by decide +kernel
theorem dX4_push_13 : decode cX4_push 13 = .ok (.return_, 1) := by decide +kernel
theorem dX4_push_14 : decode cX4_push 14 = .ok (.aload_n 2, 1) := by decide +kernel
theorem dX4_push_15 : decode cX4_push 15 = .ok (.aload_n 1, 1) := by decide +kernel
theorem dX4_push_16 : decode cX4_push 16 = .ok (.invokevirtual 29, 3) := by decide +kernel
theorem dX4_push_19 : decode cX4_push 19 = .ok (.aload_n 0, 1) := by decide +kernel
theorem dX4_push_20 : decode cX4_push 20 = .ok (.aload_n 0, 1) := by decide +kernel
theorem dX4_push_21 : decode cX4_push 21 = .ok (.getfield 17, 3) := by decide +kernel
theorem dX4_push_24 : decode cX4_push 24 = .ok (.iconst 1, 1) := by decide +kernel
theorem dX4_push_25 : decode cX4_push 25 = .ok (.iadd, 1) := by decide +kernel
theorem dX4_push_26 : decode cX4_push 26 = .ok (.bipush 20, 2) := by decide +kernel
theorem dX4_push_28 : decode cX4_push 28 = .ok (.if_icmp .ge 12, 3) := by decide +kernel
theorem dX4_push_31 : decode cX4_push 31 = .ok (.aload_n 0, 1) := by decide +kernel
theorem dX4_push_32 : decode cX4_push 32 = .ok (.getfield 17, 3) := by decide +kernel
theorem dX4_push_35 : decode cX4_push 35 = .ok (.iconst 1, 1) := by decide +kernel
theorem dX4_push_36 : decode cX4_push 36 = .ok (.iadd, 1) := by decide +kernel
theorem dX4_push_37 : decode cX4_push 37 = .ok (.goto 4, 3) := by decide +kernel
theorem dX4_push_40 : decode cX4_push 40 = .ok (.iconst 0, 1) := by decide +kernel
theorem dX4_push_41 : decode cX4_push 41 = .ok (.putfield 17, 3) := by decide +kernel
theorem dX4_push_44 : decode cX4_push 44 = .ok (.aload_n 0, 1) := by decide +kernel
theorem dX4_push_45 : decode cX4_push 45 = .ok (.bipush 20, 2) := by decide +kernel
theorem dX4_push_47 : decode cX4_push 47 = .ok (.aload_n 0, 1) := by decide +kernel
theorem dX4_push_48 : decode cX4_push 48 = .ok (.getfield 21, 3) := by decide +kernel
theorem dX4_push_51 : decode cX4_push 51 = .ok (.iconst 1, 1) := by decide +kernel
theorem dX4_push_52 : decode cX4_push 52 = .ok (.iadd, 1) := by decide +kernel
theorem dX4_push_53 : decode cX4_push 53 = .ok (.invokestatic 33, 3) := by decide +kernel
theorem dX4_push_56 : decode cX4_push 56 = .ok (.putfield 21, 3) := by decide +kernel
theorem dX4_push_59 : decode cX4_push 59 = .ok (.return_, 1) := by decide +kernel
set_option maxRecDepth 20000 in
theorem ggX4_popInto_X4_ringAt : GoodIn wsX4_popInto wsX4_ringAt := goodIn_r _ [7, 8, 29, 30, 31] (by decide +kernel) (by decide +kernel)
set_option maxRecDepth 20000 in
theorem gX4_popInto_X4_ringAt : GoodIn wsX4_popInto (wsV RX4 25 RX4 yX4_ringAt wsX4_ringAt) := goodIn_app (goodIn_of _ (by decide +kernel)) ggX4_popInto_X4_ringAt
set_option maxRecDepth 20000 in
theorem ggX4_popInto_X1_become : GoodIn wsX4_popInto wsX1_become := goodIn_r _ [13, 14, 15, 16, 17, 18, 19, 20, 21, 22, 12, 23, 24, 25, 26, 27, 28, 32, 33, 34, 35, 36, 37] (by decide +kernel) (by decide +kernel)
set_option maxRecDepth 20000 in
theorem gX4_popInto_X1_become : GoodIn wsX4_popInto (wsV RX4 29 RX1 yX1_become wsX1_become) := goodIn_app (goodIn_of _ (by decide +kernel)) ggX4_popInto_X1_become
theorem dX4_popInto_0 : decode cX4_popInto 0 = .ok (.aload_n 0, 1) := by decide +kernel
theorem dX4_popInto_1 : decode cX4_popInto 1 = .ok (.getfield 17, 3) := by decide +kernel
theorem dX4_popInto_4 : decode cX4_popInto 4 = .ok (.ifCond .le 12, 3) := by decide +kernel
theorem dX4_popInto_7 : decode cX4_popInto 7 = .ok (.aload_n 0, 1) := by decide +kernel
theorem dX4_popInto_8 : decode cX4_popInto 8 = .ok (.getfield 17, 3) := by decide +kernel
theorem dX4_popInto_11 : decode cX4_popInto 11 = .ok (.iconst 1, 1) := by decide +kernel
theorem dX4_popInto_12 : decode cX4_popInto 12 = .ok (.isub, 1) := by decide +kernel
theorem dX4_popInto_13 : decode cX4_popInto 13 = .ok (.goto 5, 3) := by decide +kernel
theorem dX4_popInto_16 : decode cX4_popInto 16 = .ok (.bipush 19, 2) := by decide +kernel
theorem dX4_popInto_18 : decode cX4_popInto 18 = .ok (.istore_n 2, 1) := by decide +kernel
theorem dX4_popInto_19 : decode cX4_popInto 19 = .ok (.aload_n 0, 1) := by decide +kernel
theorem dX4_popInto_20 : decode cX4_popInto 20 = .ok (.iload_n 2, 1) := by decide +kernel
theorem dX4_popInto_21 : decode cX4_popInto 21 = .ok (.invokevirtual 25, 3) := by decide +kernel
theorem dX4_popInto_24 : decode cX4_popInto 24 = .ok (.astore_n 3, 1) := by decide +kernel
theorem dX4_popInto_25 : decode cX4_popInto 25 = .ok (.aload_n 3, 1) := by decide +kernel
theorem dX4_popInto_26 : decode cX4_popInto 26 = .ok (.ifnull 10, 3) := by decide +kernel
theorem dX4_popInto_29 : decode cX4_popInto 29 = .ok (.aload_n 0, 1) := by decide +kernel
theorem dX4_popInto_30 : decode cX4_popInto 30 = .ok (.getfield 21, 3) := by decide +kernel
theorem dX4_popInto_33 : decode cX4_popInto 33 = .ok (.ifCond .ne 4, 3) := by decide +kernel
theorem dX4_popInto_36 : decode cX4_popInto 36 = .ok (.return_, 1) := by decide +kernel
theorem dX4_popInto_37 : decode cX4_popInto 37 = .ok (.aload_n 1, 1) := by decide +kernel
theorem dX4_popInto_38 : decode cX4_popInto 38 = .ok (.aload_n 3, 1) := by decide +kernel
theorem dX4_popInto_39 : decode cX4_popInto 39 = .ok (.invokevirtual 29, 3) := by decide +kernel
theorem dX4_popInto_42 : decode cX4_popInto 42 = .ok (.aload_n 0, 1) := by decide +kernel
theorem dX4_popInto_43 : decode cX4_popInto 43 = .ok (.iload_n 2, 1) := by decide +kernel
theorem dX4_popInto_44 : decode cX4_popInto 44 = .ok (.putfield 17, 3) := by decide +kernel
theorem dX4_popInto_47 : decode cX4_popInto 47 = .ok (.aload_n 0, 1) := by decide +kernel
theorem dX4_popInto_48 : decode cX4_popInto 48 = .ok (.dup, 1) := by decide +kernel
theorem dX4_popInto_49 : decode cX4_popInto 49 = .ok (.getfield 21, 3) := by decide +kernel
theorem dX4_popInto_52 : decode cX4_popInto 52 = .ok (.iconst 1, 1) := by decide +kernel
theorem dX4_popInto_53 : decode cX4_popInto 53 = .ok (.isub, 1) := by decide +kernel
theorem dX4_popInto_54 : decode cX4_popInto 54 = .ok (.putfield 21, 3) := by decide +kernel
theorem dX4_popInto_57 : decode cX4_popInto 57 = .ok (.return_, 1) := by decide +kernel
theorem dX4_ringAt_0 : decode cX4_ringAt 0 = .ok (.iload_n 1, 1) := by decide +kernel
theorem dX4_ringAt_1 : decode cX4_ringAt 1 = .ok (.ifCond .lt 21, 3) := by decide +kernel
theorem dX4_ringAt_4 : decode cX4_ringAt 4 = .ok (.iload_n 1, 1) := by decide +kernel
theorem dX4_ringAt_5 : decode cX4_ringAt 5 = .ok (.aload_n 0, 1) := by decide +kernel
theorem dX4_ringAt_6 : decode cX4_ringAt 6 = .ok (.getfield 11, 3) := by decide +kernel
theorem dX4_ringAt_9 : decode cX4_ringAt 9 = .ok (.arraylength, 1) := by decide +kernel
theorem dX4_ringAt_10 : decode cX4_ringAt 10 = .ok (.if_icmp .ge 12, 3) := by decide +kernel
theorem dX4_ringAt_13 : decode cX4_ringAt 13 = .ok (.aload_n 0, 1) := by decide +kernel
theorem dX4_ringAt_14 : decode cX4_ringAt 14 = .ok (.getfield 11, 3) := by decide +kernel
theorem dX4_ringAt_17 : decode cX4_ringAt 17 = .ok (.iload_n 1, 1) := by decide +kernel
theorem dX4_ringAt_18 : decode cX4_ringAt 18 = .ok (.aaload, 1) := by decide +kernel
theorem dX4_ringAt_19 : decode cX4_ringAt 19 = .ok (.goto 4, 3) := by decide +kernel
theorem dX4_ringAt_22 : decode cX4_ringAt 22 = .ok (.aconst_null, 1) := by decide +kernel
theorem dX4_ringAt_23 : decode cX4_ringAt 23 = .ok (.areturn, 1) := by decide +kernel
theorem dX5_init_0 : decode cX5_init 0 = .ok (.aload_n 0, 1) := by decide +kernel
theorem dX5_init_1 : decode cX5_init 1 = .ok (.invokespecial 3, 3) := by decide +kernel
theorem dX5_init_4 : decode cX5_init 4 = .ok (.aload_n 0, 1) := by decide +kernel
theorem dX5_init_5 : decode cX5_init 5 = .ok (.sipush 240, 3) := by decide +kernel
theorem dX5_init_8 : decode cX5_init 8 = .ok (.newarray .int, 2) := by decide +kernel
theorem dX5_init_10 : decode cX5_init 10 = .ok (.putfield 9, 3) := by decide +kernel
theorem dX5_init_13 : decode cX5_init 13 = .ok (.aload_n 0, 1) := by decide +kernel
theorem dX5_init_14 : decode cX5_init 14 = .ok (.iconst 0, 1) := by decide +kernel
theorem dX5_init_15 : decode cX5_init 15 = .ok (.putfield 15, 3) := by decide +kernel
theorem dX5_init_18 : decode cX5_init 18 = .ok (.aload_n 0, 1) := by decide +kernel
theorem dX5_init_19 : decode cX5_init 19 = .ok (.iconst 0, 1) := by decide +kernel
theorem dX5_init_20 : decode cX5_init 20 = .ok (.putfield 19, 3) := by decide +kernel
theorem dX5_init_23 : decode cX5_init 23 = .ok (.aload_n 0, 1) := by decide +kernel
theorem dX5_init_24 : decode cX5_init 24 = .ok (.iconst 0, 1) := by decide +kernel
theorem dX5_init_25 : decode cX5_init 25 = .ok (.putfield 22, 3) := by decide +kernel
theorem dX5_init_28 : decode cX5_init 28 = .ok (.aload_n 0, 1) := by decide +kernel
theorem dX5_init_29 : decode cX5_init 29 = .ok (.iconst (-1), 1) := by decide +kernel
theorem dX5_init_30 : decode cX5_init 30 = .ok (.putfield 25, 3) := by decide +kernel
theorem dX5_init_33 : decode cX5_init 33 = .ok (.return_, 1) := by decide +kernel
set_option maxRecDepth 20000 in
theorem ggX5_append_X7_put : GoodIn wsX5_append wsX7_put := goodIn_r _ [5] (by decide +kernel) (by decide +kernel)
set_option maxRecDepth 20000 in
theorem gX5_append_X7_put_n28 : GoodIn wsX5_append (wsX7_put) := ggX5_append_X7_put
theorem dX5_append_0 : decode cX5_append 0 = .ok (.aload_n 0, 1) := by decide +kernel
theorem dX5_append_1 : decode cX5_append 1 = .ok (.getfield 15, 3) := by decide +kernel
theorem dX5_append_4 : decode cX5_append 4 = .ok (.sipush 240, 3) := by decide +kernel
theorem dX5_append_7 : decode cX5_append 7 = .ok (.if_icmp .lt 5, 3) := by decide +kernel
theorem dX5_append_10 : decode cX5_append 10 = .ok (.iconst 0, 1) := by decide +kernel
theorem dX5_append_11 : decode cX5_append 11 = .ok (.ireturn, 1) := by decide +kernel
theorem dX5_append_12 : decode cX5_append 12 = .ok (.aload_n 0, 1) := by decide +kernel
theorem dX5_append_13 : decode cX5_append 13 = .ok (.getfield 9, 3) := by decide +kernel
theorem dX5_append_16 : decode cX5_append 16 = .ok (.aload_n 0, 1) := by decide +kernel
theorem dX5_append_17 : decode cX5_append 17 = .ok (.getfield 15, 3) := by decide +kernel
theorem dX5_append_20 : decode cX5_append 20 = .ok (.iload_n 1, 1) := by decide +kernel
theorem dX5_append_21 : decode cX5_append 21 = .ok (.invokestatic 28, 3) := by decide +kernel
theorem dX5_append_24 : decode cX5_append 24 = .ok (.aload_n 0, 1) := by decide +kernel
theorem dX5_append_25 : decode cX5_append 25 = .ok (.dup, 1) := by decide +kernel
theorem dX5_append_26 : decode cX5_append 26 = .ok (.getfield 15, 3) := by decide +kernel
theorem dX5_append_29 : decode cX5_append 29 = .ok (.iconst 1, 1) := by decide +kernel
theorem dX5_append_30 : decode cX5_append 30 = .ok (.iadd, 1) := by decide +kernel
theorem dX5_append_31 : decode cX5_append 31 = .ok (.putfield 15, 3) := by decide +kernel
theorem dX5_append_34 : decode cX5_append 34 = .ok (.iconst 1, 1) := by decide +kernel
theorem dX5_append_35 : decode cX5_append 35 = .ok (.ireturn, 1) := by decide +kernel
set_option maxRecDepth 20000 in
theorem ggX5_readInto_X2_clear : GoodIn wsX5_readInto wsX2_clear := goodIn_r _ [9, 10, 11, 12, 13, 14, 15, 16, 17, 18, 85, 86, 87, 88, 89, 90, 91, 92, 93, 94] (by decide +kernel) (by decide +kernel)
set_option maxRecDepth 20000 in
theorem gX5_readInto_X2_clear : GoodIn wsX5_readInto (wsV RX5 32 RX2 yX2_clear wsX2_clear) := goodIn_app (goodIn_of _ (by decide +kernel)) ggX5_readInto_X2_clear
set_option maxRecDepth 20000 in
theorem ggX5_readInto_X5_skipBlanks : GoodIn wsX5_readInto wsX5_skipBlanks := goodIn_r _ [23, 1, 4, 24, 25, 17, 26, 80, 81, 82, 83, 84] (by decide +kernel) (by decide +kernel)
set_option maxRecDepth 20000 in
theorem gX5_readInto_X5_skipBlanks : GoodIn wsX5_readInto (wsV RX5 37 RX5 yX5_skipBlanks wsX5_skipBlanks) := goodIn_app (goodIn_of _ (by decide +kernel)) ggX5_readInto_X5_skipBlanks
set_option maxRecDepth 20000 in
theorem ggX5_readInto_X5_readClause : GoodIn wsX5_readInto wsX5_readClause := goodIn_r _ [30, 24, 1, 25, 17, 26, 31, 32, 33, 22, 34, 35, 36, 37, 38, 39, 8, 40, 10, 41, 42, 43, 44, 2, 3, 45, 46, 47, 48, 49, 50, 51, 52, 53, 4, 19, 20, 21, 23, 54, 55, 56, 57, 58, 59, 60, 61, 62, 63, 64, 65, 66, 67, 68, 11, 13, 14, 15, 16, 18, 69, 70, 71, 72, 73, 74, 75, 76, 77, 12, 78, 79, 80, 81, 82, 83, 84, 85, 86, 87, 88, 89, 90, 91, 92, 93, 94] (by decide +kernel) (by decide +kernel)
set_option maxRecDepth 20000 in
theorem gX5_readInto_X5_readClause : GoodIn wsX5_readInto (wsV RX5 40 RX5 yX5_readClause wsX5_readClause) := goodIn_app (goodIn_of _ (by decide +kernel)) ggX5_readInto_X5_readClause
theorem dX5_readInto_0 : decode cX5_readInto 0 = .ok (.aload_n 1, 1) := by decide +kernel
theorem dX5_readInto_1 : decode cX5_readInto 1 = .ok (.invokevirtual 32, 3) := by decide +kernel
theorem dX5_readInto_4 : decode cX5_readInto 4 = .ok (.aload_n 0, 1) := by decide +kernel
theorem dX5_readInto_5 : decode cX5_readInto 5 = .ok (.iconst 0, 1) := by decide +kernel
theorem dX5_readInto_6 : decode cX5_readInto 6 = .ok (.putfield 19, 3) := by decide +kernel
theorem dX5_readInto_9 : decode cX5_readInto 9 = .ok (.aload_n 0, 1) := by decide +kernel
theorem dX5_readInto_10 : decode cX5_readInto 10 = .ok (.iconst 0, 1) := by decide +kernel
theorem dX5_readInto_11 : decode cX5_readInto 11 = .ok (.putfield 22, 3) := by decide +kernel
theorem dX5_readInto_14 : decode cX5_readInto 14 = .ok (.aload_n 0, 1) := by decide +kernel
theorem dX5_readInto_15 : decode cX5_readInto 15 = .ok (.iconst (-1), 1) := by decide +kernel
theorem dX5_readInto_16 : decode cX5_readInto 16 = .ok (.putfield 25, 3) := by decide +kernel
theorem dX5_readInto_19 : decode cX5_readInto 19 = .ok (.aload_n 0, 1) := by decide +kernel
theorem dX5_readInto_20 : decode cX5_readInto 20 = .ok (.invokevirtual 37, 3) := by decide +kernel
theorem dX5_readInto_23 : decode cX5_readInto 23 = .ok (.iconst 0, 1) := by decide +kernel
theorem dX5_readInto_24 : decode cX5_readInto 24 = .ok (.istore_n 2, 1) := by decide +kernel
theorem dX5_readInto_25 : decode cX5_readInto 25 = .ok (.iload_n 2, 1) := by decide +kernel
theorem dX5_readInto_26 : decode cX5_readInto 26 = .ok (.sipush 240, 3) := by decide +kernel
theorem dX5_readInto_29 : decode cX5_readInto 29 = .ok (.if_icmp .ge 36, 3) := by decide +kernel
theorem dX5_readInto_32 : decode cX5_readInto 32 = .ok (.aload_n 0, 1) := by decide +kernel
theorem dX5_readInto_33 : decode cX5_readInto 33 = .ok (.getfield 19, 3) := by decide +kernel
theorem dX5_readInto_36 : decode cX5_readInto 36 = .ok (.aload_n 0, 1) := by decide +kernel
theorem dX5_readInto_37 : decode cX5_readInto 37 = .ok (.getfield 15, 3) := by decide +kernel
theorem dX5_readInto_40 : decode cX5_readInto 40 = .ok (.if_icmp .ge 25, 3) := by decide +kernel
theorem dX5_readInto_43 : decode cX5_readInto 43 = .ok (.aload_n 0, 1) := by decide +kernel
theorem dX5_readInto_44 : decode cX5_readInto 44 = .ok (.getfield 22, 3) := by decide +kernel
theorem dX5_readInto_47 : decode cX5_readInto 47 = .ok (.ifCond .ne 18, 3) := by decide +kernel
theorem dX5_readInto_50 : decode cX5_readInto 50 = .ok (.aload_n 0, 1) := by decide +kernel
theorem dX5_readInto_51 : decode cX5_readInto 51 = .ok (.aload_n 1, 1) := by decide +kernel
theorem dX5_readInto_52 : decode cX5_readInto 52 = .ok (.invokevirtual 40, 3) := by decide +kernel
theorem dX5_readInto_55 : decode cX5_readInto 55 = .ok (.aload_n 0, 1) := by decide +kernel
theorem dX5_readInto_56 : decode cX5_readInto 56 = .ok (.invokevirtual 37, 3) := by decide +kernel
theorem dX5_readInto_59 : decode cX5_readInto 59 = .ok (.iinc 2 1, 3) := by decide +kernel
theorem dX5_readInto_62 : decode cX5_readInto 62 = .ok (.goto (-37), 3) := by decide +kernel
theorem dX5_readInto_65 : decode cX5_readInto 65 = .ok (.aload_n 0, 1) := by decide +kernel
theorem dX5_readInto_66 : decode cX5_readInto 66 = .ok (.iconst 0, 1) := by decide +kernel
theorem dX5_readInto_67 : decode cX5_readInto 67 = .ok (.putfield 15, 3) := by decide +kernel
theorem dX5_readInto_70 : decode cX5_readInto 70 = .ok (.aload_n 0, 1) := by decide +kernel
theorem dX5_readInto_71 : decode cX5_readInto 71 = .ok (.getfield 22, 3) := by decide +kernel
theorem dX5_readInto_74 : decode cX5_readInto 74 = .ok (.ireturn, 1) := by decide +kernel
set_option maxRecDepth 20000 in
theorem ggX5_readClause_X7_at : GoodIn wsX5_readClause wsX7_at := goodIn_r _ [5] (by decide +kernel) (by decide +kernel)
set_option maxRecDepth 20000 in
theorem gX5_readClause_X7_at_n44 : GoodIn wsX5_readClause (wsX7_at) := ggX5_readClause_X7_at
set_option maxRecDepth 20000 in
theorem ggX5_readClause_X5_wordFault : GoodIn wsX5_readClause wsX5_wordFault := goodIn_r _ [10, 11, 12, 13, 14, 15, 16, 17, 18, 77, 78, 79, 80, 81, 82, 83, 84, 85, 86] (by decide +kernel) (by decide +kernel)
set_option maxRecDepth 20000 in
theorem gX5_readClause_X5_wordFault : GoodIn wsX5_readClause (wsV RX5 48 RX5 yX5_wordFault wsX5_wordFault) := goodIn_app (goodIn_of _ (by decide +kernel)) ggX5_readClause_X5_wordFault
set_option maxRecDepth 20000 in
theorem ggX5_readClause_X5_fail : GoodIn wsX5_readClause wsX5_fail := goodIn_r _ [22, 23, 24, 72, 73, 74, 75, 76] (by decide +kernel) (by decide +kernel)
set_option maxRecDepth 20000 in
theorem gX5_readClause_X5_fail : GoodIn wsX5_readClause (wsV RX5 52 RX5 yX5_fail wsX5_fail) := goodIn_app (goodIn_of _ (by decide +kernel)) ggX5_readClause_X5_fail
set_option maxRecDepth 20000 in
theorem ggX5_readClause_X5_readKing : GoodIn wsX5_readClause wsX5_readKing := goodIn_r _ [28, 23, 29, 30, 31, 32, 9, 33, 2, 34, 1, 35, 36, 37, 38, 3, 4, 5, 39, 40, 19, 20, 21, 22, 24, 41, 42, 43, 44, 72, 73, 74, 75, 76, 77, 78, 79, 80, 81, 82, 83, 84, 85, 86] (by decide +kernel) (by decide +kernel)
set_option maxRecDepth 20000 in
theorem gX5_readClause_X5_readKing : GoodIn wsX5_readClause (wsV RX5 56 RX5 yX5_readKing wsX5_readKing) := goodIn_app (goodIn_of _ (by decide +kernel)) ggX5_readClause_X5_readKing
set_option maxRecDepth 20000 in
theorem ggX5_readClause_X5_readPerson : GoodIn wsX5_readClause wsX5_readPerson := goodIn_r _ [48, 23, 30, 31, 32, 9, 33, 2, 34, 1, 35, 36, 37, 38, 3, 4, 5, 39, 40, 19, 20, 21, 22, 24, 41, 42, 43, 44, 49, 50, 51, 16, 52, 53, 54, 55, 56, 57, 58, 59, 72, 73, 74, 75, 76, 77, 78, 79, 80, 81, 82, 83, 84, 85, 86] (by decide +kernel) (by decide +kernel)
set_option maxRecDepth 20000 in
theorem gX5_readClause_X5_readPerson : GoodIn wsX5_readClause (wsV RX5 59 RX5 yX5_readPerson wsX5_readPerson) := goodIn_app (goodIn_of _ (by decide +kernel)) ggX5_readClause_X5_readPerson
set_option maxRecDepth 20000 in
theorem ggX5_readClause_X5_readDay : GoodIn wsX5_readClause wsX5_readDay := goodIn_r _ [63, 23, 30, 31, 32, 9, 33, 2, 34, 1, 35, 36, 37, 38, 3, 4, 5, 39, 40, 19, 20, 21, 22, 24, 41, 42, 43, 44, 64, 65, 66, 16, 67, 68, 69, 70, 71, 58, 59, 72, 73, 74, 75, 76, 77, 78, 79, 80, 81, 82, 83, 84, 85, 86] (by decide +kernel) (by decide +kernel)
set_option maxRecDepth 20000 in
theorem gX5_readClause_X5_readDay : GoodIn wsX5_readClause (wsV RX5 62 RX5 yX5_readDay wsX5_readDay) := goodIn_app (goodIn_of _ (by decide +kernel)) ggX5_readClause_X5_readDay
theorem dX5_readClause_0 : decode cX5_readClause 0 = .ok (.aload_n 0, 1) := by decide +kernel
theorem dX5_readClause_1 : decode cX5_readClause 1 = .ok (.getfield 9, 3) := by decide +kernel
theorem dX5_readClause_4 : decode cX5_readClause 4 = .ok (.aload_n 0, 1) := by decide +kernel
theorem dX5_readClause_5 : decode cX5_readClause 5 = .ok (.getfield 19, 3) := by decide +kernel
theorem dX5_readClause_8 : decode cX5_readClause 8 = .ok (.invokestatic 44, 3) := by decide +kernel
theorem dX5_readClause_11 : decode cX5_readClause 11 = .ok (.istore_n 2, 1) := by decide +kernel
theorem dX5_readClause_12 : decode cX5_readClause 12 = .ok (.aload_n 0, 1) := by decide +kernel
theorem dX5_readClause_13 : decode cX5_readClause 13 = .ok (.iload_n 2, 1) := by decide +kernel
theorem dX5_readClause_14 : decode cX5_readClause 14 = .ok (.aload_n 1, 1) := by decide +kernel
theorem dX5_readClause_15 : decode cX5_readClause 15 = .ok (.invokevirtual 48, 3) := by decide +kernel
theorem dX5_readClause_18 : decode cX5_readClause 18 = .ok (.istore_n 3, 1) := by decide +kernel
theorem dX5_readClause_19 : decode cX5_readClause 19 = .ok (.iload_n 3, 1) := by decide +kernel
theorem dX5_readClause_20 : decode cX5_readClause 20 = .ok (.ifCond .eq 13, 3) := by decide +kernel
theorem dX5_readClause_23 : decode cX5_readClause 23 = .ok (.aload_n 0, 1) := by decide +kernel
theorem dX5_readClause_24 : decode cX5_readClause 24 = .ok (.iload_n 3, 1) := by decide +kernel
theorem dX5_readClause_25 : decode cX5_readClause 25 = .ok (.aload_n 0, 1) := by decide +kernel
theorem dX5_readClause_26 : decode cX5_readClause 26 = .ok (.getfield 19, 3) := by decide +kernel
theorem dX5_readClause_29 : decode cX5_readClause 29 = .ok (.invokevirtual 52, 3) := by decide +kernel
theorem dX5_readClause_32 : decode cX5_readClause 32 = .ok (.return_, 1) := by decide +kernel
theorem dX5_readClause_33 : decode cX5_readClause 33 = .ok (.aload_n 0, 1) := by decide +kernel
theorem dX5_readClause_34 : decode cX5_readClause 34 = .ok (.dup, 1) := by decide +kernel
theorem dX5_readClause_35 : decode cX5_readClause 35 = .ok (.getfield 19, 3) := by decide +kernel
theorem dX5_readClause_38 : decode cX5_readClause 38 = .ok (.iconst 1, 1) := by decide +kernel
theorem dX5_readClause_39 : decode cX5_readClause 39 = .ok (.iadd, 1) := by decide +kernel
theorem dX5_readClause_40 : decode cX5_readClause 40 = .ok (.putfield 19, 3) := by decide +kernel
theorem dX5_readClause_43 : decode cX5_readClause 43 = .ok (.iload_n 2, 1) := by decide +kernel
theorem dX5_readClause_44 : decode cX5_readClause 44 = .ok (.lookupswitch 44 #[(107, 28), (112, 36)], 28) := by decide +kernel
theorem dX5_readClause_72 : decode cX5_readClause 72 = .ok (.aload_n 0, 1) := by decide +kernel
theorem dX5_readClause_73 : decode cX5_readClause 73 = .ok (.aload_n 1, 1) := by decide +kernel
theorem dX5_readClause_74 : decode cX5_readClause 74 = .ok (.invokevirtual 56, 3) := by decide +kernel
theorem dX5_readClause_77 : decode cX5_readClause 77 = .ok (.goto 16, 3) := by decide +kernel
theorem dX5_readClause_80 : decode cX5_readClause 80 = .ok (.aload_n 0, 1) := by decide +kernel
theorem dX5_readClause_81 : decode cX5_readClause 81 = .ok (.aload_n 1, 1) := by decide +kernel
theorem dX5_readClause_82 : decode cX5_readClause 82 = .ok (.invokevirtual 59, 3) := by decide +kernel
theorem dX5_readClause_85 : decode cX5_readClause 85 = .ok (.goto 8, 3) := by decide +kernel
theorem dX5_readClause_88 : decode cX5_readClause 88 = .ok (.aload_n 0, 1) := by decide +kernel
theorem dX5_readClause_89 : decode cX5_readClause 89 = .ok (.aload_n 1, 1) := by decide +kernel
theorem dX5_readClause_90 : decode cX5_readClause 90 = .ok (.invokevirtual 62, 3) := by decide +kernel
theorem dX5_readClause_93 : decode cX5_readClause 93 = .ok (.return_, 1) := by decide +kernel
set_option maxRecDepth 20000 in
theorem ggX5_wordFault_X2_stands : GoodIn wsX5_wordFault wsX2_stands := goodIn_r _ [7, 8, 9, 10, 11, 12, 13, 14, 15, 16, 17, 18] (by decide +kernel) (by decide +kernel)
set_option maxRecDepth 20000 in
theorem gX5_wordFault_X2_stands : GoodIn wsX5_wordFault (wsV RX5 65 RX2 yX2_stands wsX2_stands) := goodIn_app (goodIn_of _ (by decide +kernel)) ggX5_wordFault_X2_stands
theorem dX5_wordFault_0 : decode cX5_wordFault 0 = .ok (.aload_n 2, 1) := by decide +kernel
theorem dX5_wordFault_1 : decode cX5_wordFault 1 = .ok (.invokevirtual 65, 3) := by decide +kernel
theorem dX5_wordFault_4 : decode cX5_wordFault 4 = .ok (.ifCond .ne 15, 3) := by decide +kernel
theorem dX5_wordFault_7 : decode cX5_wordFault 7 = .ok (.iload_n 1, 1) := by decide +kernel
theorem dX5_wordFault_8 : decode cX5_wordFault 8 = .ok (.bipush 107, 2) := by decide +kernel
theorem dX5_wordFault_10 : decode cX5_wordFault 10 = .ok (.if_icmp .ne 7, 3) := by decide +kernel
theorem dX5_wordFault_13 : decode cX5_wordFault 13 = .ok (.iconst 0, 1) := by decide +kernel
theorem dX5_wordFault_14 : decode cX5_wordFault 14 = .ok (.goto 4, 3) := by decide +kernel
theorem dX5_wordFault_17 : decode cX5_wordFault 17 = .ok (.iconst 1, 1) := by decide +kernel
theorem dX5_wordFault_18 : decode cX5_wordFault 18 = .ok (.ireturn, 1) := by decide +kernel
theorem dX5_wordFault_19 : decode cX5_wordFault 19 = .ok (.iload_n 1, 1) := by decide +kernel
theorem dX5_wordFault_20 : decode cX5_wordFault 20 = .ok (.lookupswitch 68 #[(100, 53), (107, 36), (112, 38)], 36) := by decide +kernel
theorem dX5_wordFault_56 : decode cX5_wordFault 56 = .ok (.iconst 3, 1) := by decide +kernel
theorem dX5_wordFault_57 : decode cX5_wordFault 57 = .ok (.ireturn, 1) := by decide +kernel
theorem dX5_wordFault_58 : decode cX5_wordFault 58 = .ok (.aload_n 2, 1) := by decide +kernel
theorem dX5_wordFault_59 : decode cX5_wordFault 59 = .ok (.getfield 69, 3) := by decide +kernel
theorem dX5_wordFault_62 : decode cX5_wordFault 62 = .ok (.bipush 8, 2) := by decide +kernel
theorem dX5_wordFault_64 : decode cX5_wordFault 64 = .ok (.if_icmp .ge 7, 3) := by decide +kernel
theorem dX5_wordFault_67 : decode cX5_wordFault 67 = .ok (.iconst 0, 1) := by decide +kernel
theorem dX5_wordFault_68 : decode cX5_wordFault 68 = .ok (.goto 4, 3) := by decide +kernel
theorem dX5_wordFault_71 : decode cX5_wordFault 71 = .ok (.iconst 3, 1) := by decide +kernel
theorem dX5_wordFault_72 : decode cX5_wordFault 72 = .ok (.ireturn, 1) := by decide +kernel
theorem dX5_wordFault_73 : decode cX5_wordFault 73 = .ok (.aload_n 2, 1) := by decide +kernel
theorem dX5_wordFault_74 : decode cX5_wordFault 74 = .ok (.getfield 72, 3) := by decide +kernel
theorem dX5_wordFault_77 : decode cX5_wordFault 77 = .ok (.bipush 10, 2) := by decide +kernel
theorem dX5_wordFault_79 : decode cX5_wordFault 79 = .ok (.if_icmp .ge 7, 3) := by decide +kernel
theorem dX5_wordFault_82 : decode cX5_wordFault 82 = .ok (.iconst 0, 1) := by decide +kernel
theorem dX5_wordFault_83 : decode cX5_wordFault 83 = .ok (.goto 4, 3) := by decide +kernel
theorem dX5_wordFault_86 : decode cX5_wordFault 86 = .ok (.iconst 3, 1) := by decide +kernel
theorem dX5_wordFault_87 : decode cX5_wordFault 87 = .ok (.ireturn, 1) := by decide +kernel
theorem dX5_wordFault_88 : decode cX5_wordFault 88 = .ok (.iconst 1, 1) := by decide +kernel
theorem dX5_wordFault_89 : decode cX5_wordFault 89 = .ok (.ireturn, 1) := by decide +kernel
set_option maxRecDepth 20000 in
theorem ggX5_readKing_X5_readNumber : GoodIn wsX5_readKing wsX5_readNumber := goodIn_r _ [7, 1, 8, 9, 10, 11, 12, 13, 6, 14, 15, 16, 17, 18, 19, 20, 21, 22, 23, 24, 29, 30, 31, 32, 33] (by decide +kernel) (by decide +kernel)
set_option maxRecDepth 20000 in
theorem gX5_readKing_X5_readNumber : GoodIn wsX5_readKing (wsV RX5 75 RX5 yX5_readNumber wsX5_readNumber) := goodIn_app (goodIn_of _ (by decide +kernel)) ggX5_readKing_X5_readNumber
set_option maxRecDepth 20000 in
theorem ggX5_readKing_X5_readEnd : GoodIn wsX5_readKing wsX5_readEnd := goodIn_r _ [28, 1, 8, 9, 10, 11, 12, 13, 6, 14, 15, 16, 17, 20, 21, 22, 23, 24, 29, 30, 31, 32, 33] (by decide +kernel) (by decide +kernel)
set_option maxRecDepth 20000 in
theorem gX5_readKing_X5_readEnd : GoodIn wsX5_readKing (wsV RX5 79 RX5 yX5_readEnd wsX5_readEnd) := goodIn_app (goodIn_of _ (by decide +kernel)) ggX5_readKing_X5_readEnd
theorem dX5_readKing_0 : decode cX5_readKing 0 = .ok (.aload_n 0, 1) := by decide +kernel
theorem dX5_readKing_1 : decode cX5_readKing 1 = .ok (.iconst 1, 1) := by decide +kernel
theorem dX5_readKing_2 : decode cX5_readKing 2 = .ok (.sipush 999, 3) := by decide +kernel
theorem dX5_readKing_5 : decode cX5_readKing 5 = .ok (.invokevirtual 75, 3) := by decide +kernel
theorem dX5_readKing_8 : decode cX5_readKing 8 = .ok (.istore_n 2, 1) := by decide +kernel
theorem dX5_readKing_9 : decode cX5_readKing 9 = .ok (.aload_n 0, 1) := by decide +kernel
theorem dX5_readKing_10 : decode cX5_readKing 10 = .ok (.invokevirtual 79, 3) := by decide +kernel
theorem dX5_readKing_13 : decode cX5_readKing 13 = .ok (.aload_n 0, 1) := by decide +kernel
theorem dX5_readKing_14 : decode cX5_readKing 14 = .ok (.getfield 22, 3) := by decide +kernel
theorem dX5_readKing_17 : decode cX5_readKing 17 = .ok (.ifCond .ne 8, 3) := by decide +kernel
theorem dX5_readKing_20 : decode cX5_readKing 20 = .ok (.aload_n 1, 1) := by decide +kernel
theorem dX5_readKing_21 : decode cX5_readKing 21 = .ok (.iload_n 2, 1) := by decide +kernel
theorem dX5_readKing_22 : decode cX5_readKing 22 = .ok (.putfield 82, 3) := by decide +kernel
theorem dX5_readKing_25 : decode cX5_readKing 25 = .ok (.return_, 1) := by decide +kernel
set_option maxRecDepth 20000 in
theorem ggX5_readPerson_X5_readNumber : GoodIn wsX5_readPerson wsX5_readNumber := goodIn_r _ [6, 1, 7, 8, 9, 10, 11, 12, 5, 13, 14, 15, 16, 17, 18, 19, 20, 21, 22, 23, 40, 41, 42, 43, 44] (by decide +kernel) (by decide +kernel)
set_option maxRecDepth 20000 in
theorem gX5_readPerson_X5_readNumber : GoodIn wsX5_readPerson (wsV RX5 75 RX5 yX5_readNumber wsX5_readNumber) := goodIn_app (goodIn_of _ (by decide +kernel)) ggX5_readPerson_X5_readNumber
set_option maxRecDepth 20000 in
theorem ggX5_readPerson_X5_readEnd : GoodIn wsX5_readPerson wsX5_readEnd := goodIn_r _ [27, 1, 7, 8, 9, 10, 11, 12, 5, 13, 14, 15, 16, 19, 20, 21, 22, 23, 40, 41, 42, 43, 44] (by decide +kernel) (by decide +kernel)
set_option maxRecDepth 20000 in
theorem gX5_readPerson_X5_readEnd : GoodIn wsX5_readPerson (wsV RX5 79 RX5 yX5_readEnd wsX5_readEnd) := goodIn_app (goodIn_of _ (by decide +kernel)) ggX5_readPerson_X5_readEnd
set_option maxRecDepth 20000 in
theorem ggX5_readPerson_X2_addPerson : GoodIn wsX5_readPerson wsX2_addPerson := goodIn_r _ [32, 33, 34, 35, 36, 37, 38, 15, 39, 45, 46, 47, 48, 49, 50, 51, 52, 53, 54] (by decide +kernel) (by decide +kernel)
set_option maxRecDepth 20000 in
theorem gX5_readPerson_X2_addPerson : GoodIn wsX5_readPerson (wsV RX5 85 RX2 yX2_addPerson wsX2_addPerson) := goodIn_app (goodIn_of _ (by decide +kernel)) ggX5_readPerson_X2_addPerson
theorem dX5_readPerson_0 : decode cX5_readPerson 0 = .ok (.aload_n 0, 1) := by decide +kernel
theorem dX5_readPerson_1 : decode cX5_readPerson 1 = .ok (.iconst 0, 1) := by decide +kernel
theorem dX5_readPerson_2 : decode cX5_readPerson 2 = .ok (.sipush 255, 3) := by decide +kernel
theorem dX5_readPerson_5 : decode cX5_readPerson 5 = .ok (.invokevirtual 75, 3) := by decide +kernel
theorem dX5_readPerson_8 : decode cX5_readPerson 8 = .ok (.istore_n 2, 1) := by decide +kernel
theorem dX5_readPerson_9 : decode cX5_readPerson 9 = .ok (.aload_n 0, 1) := by decide +kernel
theorem dX5_readPerson_10 : decode cX5_readPerson 10 = .ok (.iconst 0, 1) := by decide +kernel
theorem dX5_readPerson_11 : decode cX5_readPerson 11 = .ok (.bipush 7, 2) := by decide +kernel
theorem dX5_readPerson_13 : decode cX5_readPerson 13 = .ok (.invokevirtual 75, 3) := by decide +kernel
theorem dX5_readPerson_16 : decode cX5_readPerson 16 = .ok (.istore_n 3, 1) := by decide +kernel
theorem dX5_readPerson_17 : decode cX5_readPerson 17 = .ok (.aload_n 0, 1) := by decide +kernel
theorem dX5_readPerson_18 : decode cX5_readPerson 18 = .ok (.iconst 0, 1) := by decide +kernel
theorem dX5_readPerson_19 : decode cX5_readPerson 19 = .ok (.bipush 15, 2) := by decide +kernel
theorem dX5_readPerson_21 : decode cX5_readPerson 21 = .ok (.invokevirtual 75, 3) := by decide +kernel
theorem dX5_readPerson_24 : decode cX5_readPerson 24 = .ok (.istore 4, 2) := by decide +kernel
theorem dX5_readPerson_26 : decode cX5_readPerson 26 = .ok (.aload_n 0, 1) := by decide +kernel
theorem dX5_readPerson_27 : decode cX5_readPerson 27 = .ok (.iconst 0, 1) := by decide +kernel
theorem dX5_readPerson_28 : decode cX5_readPerson 28 = .ok (.bipush 9, 2) := by decide +kernel
theorem dX5_readPerson_30 : decode cX5_readPerson 30 = .ok (.invokevirtual 75, 3) := by decide +kernel
theorem dX5_readPerson_33 : decode cX5_readPerson 33 = .ok (.istore 5, 2) := by decide +kernel
theorem dX5_readPerson_35 : decode cX5_readPerson 35 = .ok (.aload_n 0, 1) := by decide +kernel
theorem dX5_readPerson_36 : decode cX5_readPerson 36 = .ok (.invokevirtual 79, 3) := by decide +kernel
theorem dX5_readPerson_39 : decode cX5_readPerson 39 = .ok (.aload_n 0, 1) := by decide +kernel
theorem dX5_readPerson_40 : decode cX5_readPerson 40 = .ok (.getfield 22, 3) := by decide +kernel
theorem dX5_readPerson_43 : decode cX5_readPerson 43 = .ok (.ifCond .ne 13, 3) := by decide +kernel
theorem dX5_readPerson_46 : decode cX5_readPerson 46 = .ok (.aload_n 1, 1) := by decide +kernel
theorem dX5_readPerson_47 : decode cX5_readPerson 47 = .ok (.iload_n 2, 1) := by decide +kernel
theorem dX5_readPerson_48 : decode cX5_readPerson 48 = .ok (.iload_n 3, 1) := by decide +kernel
theorem dX5_readPerson_49 : decode cX5_readPerson 49 = .ok (.iload 4, 2) := by decide +kernel
theorem dX5_readPerson_51 : decode cX5_readPerson 51 = .ok (.iload 5, 2) := by decide +kernel
theorem dX5_readPerson_53 : decode cX5_readPerson 53 = .ok (.invokevirtual 85, 3) := by decide +kernel
theorem dX5_readPerson_56 : decode cX5_readPerson 56 = .ok (.return_, 1) := by decide +kernel
set_option maxRecDepth 20000 in
theorem ggX5_readDay_X5_readNumber : GoodIn wsX5_readDay wsX5_readNumber := goodIn_r _ [6, 1, 7, 8, 9, 10, 11, 12, 5, 13, 14, 15, 16, 17, 18, 19, 20, 21, 22, 23, 39, 40, 41, 42, 43] (by decide +kernel) (by decide +kernel)
set_option maxRecDepth 20000 in
theorem gX5_readDay_X5_readNumber : GoodIn wsX5_readDay (wsV RX5 75 RX5 yX5_readNumber wsX5_readNumber) := goodIn_app (goodIn_of _ (by decide +kernel)) ggX5_readDay_X5_readNumber
set_option maxRecDepth 20000 in
theorem ggX5_readDay_X5_readEnd : GoodIn wsX5_readDay wsX5_readEnd := goodIn_r _ [27, 1, 7, 8, 9, 10, 11, 12, 5, 13, 14, 15, 16, 19, 20, 21, 22, 23, 39, 40, 41, 42, 43] (by decide +kernel) (by decide +kernel)
set_option maxRecDepth 20000 in
theorem gX5_readDay_X5_readEnd : GoodIn wsX5_readDay (wsV RX5 79 RX5 yX5_readEnd wsX5_readEnd) := goodIn_app (goodIn_of _ (by decide +kernel)) ggX5_readDay_X5_readEnd
set_option maxRecDepth 20000 in
theorem ggX5_readDay_X2_addDay : GoodIn wsX5_readDay wsX2_addDay := goodIn_r _ [32, 33, 34, 35, 36, 37, 15, 38, 44, 45, 46, 47, 48, 49, 50, 51, 52, 53] (by decide +kernel) (by decide +kernel)
set_option maxRecDepth 20000 in
theorem gX5_readDay_X2_addDay : GoodIn wsX5_readDay (wsV RX5 89 RX2 yX2_addDay wsX2_addDay) := goodIn_app (goodIn_of _ (by decide +kernel)) ggX5_readDay_X2_addDay
theorem dX5_readDay_0 : decode cX5_readDay 0 = .ok (.aload_n 0, 1) := by decide +kernel
theorem dX5_readDay_1 : decode cX5_readDay 1 = .ok (.iconst 0, 1) := by decide +kernel
theorem dX5_readDay_2 : decode cX5_readDay 2 = .ok (.iconst 2, 1) := by decide +kernel
theorem dX5_readDay_3 : decode cX5_readDay 3 = .ok (.invokevirtual 75, 3) := by decide +kernel
theorem dX5_readDay_6 : decode cX5_readDay 6 = .ok (.istore_n 2, 1) := by decide +kernel
theorem dX5_readDay_7 : decode cX5_readDay 7 = .ok (.aload_n 0, 1) := by decide +kernel
theorem dX5_readDay_8 : decode cX5_readDay 8 = .ok (.iconst 0, 1) := by decide +kernel
theorem dX5_readDay_9 : decode cX5_readDay 9 = .ok (.iconst 3, 1) := by decide +kernel
theorem dX5_readDay_10 : decode cX5_readDay 10 = .ok (.invokevirtual 75, 3) := by decide +kernel
theorem dX5_readDay_13 : decode cX5_readDay 13 = .ok (.istore_n 3, 1) := by decide +kernel
theorem dX5_readDay_14 : decode cX5_readDay 14 = .ok (.aload_n 0, 1) := by decide +kernel
theorem dX5_readDay_15 : decode cX5_readDay 15 = .ok (.iconst 0, 1) := by decide +kernel
theorem dX5_readDay_16 : decode cX5_readDay 16 = .ok (.bipush 9, 2) := by decide +kernel
theorem dX5_readDay_18 : decode cX5_readDay 18 = .ok (.invokevirtual 75, 3) := by decide +kernel
theorem dX5_readDay_21 : decode cX5_readDay 21 = .ok (.istore 4, 2) := by decide +kernel
theorem dX5_readDay_23 : decode cX5_readDay 23 = .ok (.aload_n 0, 1) := by decide +kernel
theorem dX5_readDay_24 : decode cX5_readDay 24 = .ok (.invokevirtual 79, 3) := by decide +kernel
theorem dX5_readDay_27 : decode cX5_readDay 27 = .ok (.aload_n 0, 1) := by decide +kernel
theorem dX5_readDay_28 : decode cX5_readDay 28 = .ok (.getfield 22, 3) := by decide +kernel
theorem dX5_readDay_31 : decode cX5_readDay 31 = .ok (.ifCond .ne 11, 3) := by decide +kernel
theorem dX5_readDay_34 : decode cX5_readDay 34 = .ok (.aload_n 1, 1) := by decide +kernel
theorem dX5_readDay_35 : decode cX5_readDay 35 = .ok (.iload_n 2, 1) := by decide +kernel
theorem dX5_readDay_36 : decode cX5_readDay 36 = .ok (.iload_n 3, 1) := by decide +kernel
theorem dX5_readDay_37 : decode cX5_readDay 37 = .ok (.iload 4, 2) := by decide +kernel
theorem dX5_readDay_39 : decode cX5_readDay 39 = .ok (.invokevirtual 89, 3) := by decide +kernel
theorem dX5_readDay_42 : decode cX5_readDay 42 = .ok (.return_, 1) := by decide +kernel
set_option maxRecDepth 20000 in
theorem ggX5_readNumber_X5_skipBlanks : GoodIn wsX5_readNumber wsX5_skipBlanks := goodIn_r _ [9, 2, 3, 4, 10, 11, 12, 20, 21, 22, 23, 24] (by decide +kernel) (by decide +kernel)
set_option maxRecDepth 20000 in
theorem gX5_readNumber_X5_skipBlanks : GoodIn wsX5_readNumber (wsV RX5 37 RX5 yX5_skipBlanks wsX5_skipBlanks) := goodIn_app (goodIn_of _ (by decide +kernel)) ggX5_readNumber_X5_skipBlanks
set_option maxRecDepth 20000 in
theorem ggX5_readNumber_X7_at : GoodIn wsX5_readNumber wsX7_at := goodIn_r _ [12] (by decide +kernel) (by decide +kernel)
set_option maxRecDepth 20000 in
theorem gX5_readNumber_X7_at_n44 : GoodIn wsX5_readNumber (wsX7_at) := ggX5_readNumber_X7_at
set_option maxRecDepth 20000 in
theorem ggX5_readNumber_X7_within : GoodIn wsX5_readNumber wsX7_within := goodIn_r _ [14] (by decide +kernel) (by decide +kernel)
set_option maxRecDepth 20000 in
theorem gX5_readNumber_X7_within_n93 : GoodIn wsX5_readNumber (wsX7_within) := ggX5_readNumber_X7_within
set_option maxRecDepth 20000 in
theorem ggX5_readNumber_X5_fail : GoodIn wsX5_readNumber wsX5_fail := goodIn_r _ [18, 1, 19, 20, 21, 22, 23, 24] (by decide +kernel) (by decide +kernel)
set_option maxRecDepth 20000 in
theorem gX5_readNumber_X5_fail : GoodIn wsX5_readNumber (wsV RX5 52 RX5 yX5_fail wsX5_fail) := goodIn_app (goodIn_of _ (by decide +kernel)) ggX5_readNumber_X5_fail
theorem dX5_readNumber_0 : decode cX5_readNumber 0 = .ok (.aload_n 0, 1) := by decide +kernel
theorem dX5_readNumber_1 : decode cX5_readNumber 1 = .ok (.getfield 22, 3) := by decide +kernel
theorem dX5_readNumber_4 : decode cX5_readNumber 4 = .ok (.ifCond .eq 5, 3) := by decide +kernel
theorem dX5_readNumber_7 : decode cX5_readNumber 7 = .ok (.iconst 0, 1) := by decide +kernel
theorem dX5_readNumber_8 : decode cX5_readNumber 8 = .ok (.ireturn, 1) := by decide +kernel
theorem dX5_readNumber_9 : decode cX5_readNumber 9 = .ok (.aload_n 0, 1) := by decide +kernel
theorem dX5_readNumber_10 : decode cX5_readNumber 10 = .ok (.invokevirtual 37, 3) := by decide +kernel
theorem dX5_readNumber_13 : decode cX5_readNumber 13 = .ok (.aload_n 0, 1) := by decide +kernel
theorem dX5_readNumber_14 : decode cX5_readNumber 14 = .ok (.getfield 19, 3) := by decide +kernel
theorem dX5_readNumber_17 : decode cX5_readNumber 17 = .ok (.istore_n 3, 1) := by decide +kernel
theorem dX5_readNumber_18 : decode cX5_readNumber 18 = .ok (.iconst 0, 1) := by decide +kernel
theorem dX5_readNumber_19 : decode cX5_readNumber 19 = .ok (.istore 4, 2) := by decide +kernel
theorem dX5_readNumber_21 : decode cX5_readNumber 21 = .ok (.aload_n 0, 1) := by decide +kernel
theorem dX5_readNumber_22 : decode cX5_readNumber 22 = .ok (.getfield 19, 3) := by decide +kernel
theorem dX5_readNumber_25 : decode cX5_readNumber 25 = .ok (.aload_n 0, 1) := by decide +kernel
theorem dX5_readNumber_26 : decode cX5_readNumber 26 = .ok (.getfield 15, 3) := by decide +kernel
theorem dX5_readNumber_29 : decode cX5_readNumber 29 = .ok (.if_icmp .ge 59, 3) := by decide +kernel
theorem dX5_readNumber_32 : decode cX5_readNumber 32 = .ok (.aload_n 0, 1) := by decide +kernel
theorem dX5_readNumber_33 : decode cX5_readNumber 33 = .ok (.getfield 9, 3) := by decide +kernel
theorem dX5_readNumber_36 : decode cX5_readNumber 36 = .ok (.aload_n 0, 1) := by decide +kernel
theorem dX5_readNumber_37 : decode cX5_readNumber 37 = .ok (.getfield 19, 3) := by decide +kernel
theorem dX5_readNumber_40 : decode cX5_readNumber 40 = .ok (.invokestatic 44, 3) := by decide +kernel
theorem dX5_readNumber_43 : decode cX5_readNumber 43 = .ok (.bipush 48, 2) := by decide +kernel
theorem dX5_readNumber_45 : decode cX5_readNumber 45 = .ok (.bipush 57, 2) := by decide +kernel
theorem dX5_readNumber_47 : decode cX5_readNumber 47 = .ok (.invokestatic 93, 3) := by decide +kernel
theorem dX5_readNumber_50 : decode cX5_readNumber 50 = .ok (.ifCond .eq 38, 3) := by decide +kernel
theorem dX5_readNumber_53 : decode cX5_readNumber 53 = .ok (.iload 4, 2) := by decide +kernel
theorem dX5_readNumber_55 : decode cX5_readNumber 55 = .ok (.bipush 10, 2) := by decide +kernel
theorem dX5_readNumber_57 : decode cX5_readNumber 57 = .ok (.imul, 1) := by decide +kernel
theorem dX5_readNumber_58 : decode cX5_readNumber 58 = .ok (.aload_n 0, 1) := by decide +kernel
theorem dX5_readNumber_59 : decode cX5_readNumber 59 = .ok (.getfield 9, 3) := by decide +kernel
theorem dX5_readNumber_62 : decode cX5_readNumber 62 = .ok (.aload_n 0, 1) := by decide +kernel
theorem dX5_readNumber_63 : decode cX5_readNumber 63 = .ok (.getfield 19, 3) := by decide +kernel
theorem dX5_readNumber_66 : decode cX5_readNumber 66 = .ok (.invokestatic 44, 3) := by decide +kernel
theorem dX5_readNumber_69 : decode cX5_readNumber 69 = .ok (.iadd, 1) := by decide +kernel
theorem dX5_readNumber_70 : decode cX5_readNumber 70 = .ok (.bipush 48, 2) := by decide +kernel
theorem dX5_readNumber_72 : decode cX5_readNumber 72 = .ok (.isub, 1) := by decide +kernel
theorem dX5_readNumber_73 : decode cX5_readNumber 73 = .ok (.istore 4, 2) := by decide +kernel
theorem dX5_readNumber_75 : decode cX5_readNumber 75 = .ok (.aload_n 0, 1) := by decide +kernel
theorem dX5_readNumber_76 : decode cX5_readNumber 76 = .ok (.dup, 1) := by decide +kernel
theorem dX5_readNumber_77 : decode cX5_readNumber 77 = .ok (.getfield 19, 3) := by decide +kernel
theorem dX5_readNumber_80 : decode cX5_readNumber 80 = .ok (.iconst 1, 1) := by decide +kernel
theorem dX5_readNumber_81 : decode cX5_readNumber 81 = .ok (.iadd, 1) := by decide +kernel
theorem dX5_readNumber_82 : decode cX5_readNumber 82 = .ok (.putfield 19, 3) := by decide +kernel
theorem dX5_readNumber_85 : decode cX5_readNumber 85 = .ok (.goto (-64), 3) := by decide +kernel
theorem dX5_readNumber_88 : decode cX5_readNumber 88 = .ok (.aload_n 0, 1) := by decide +kernel
theorem dX5_readNumber_89 : decode cX5_readNumber 89 = .ok (.getfield 19, 3) := by decide +kernel
theorem dX5_readNumber_92 : decode cX5_readNumber 92 = .ok (.iload_n 3, 1) := by decide +kernel
theorem dX5_readNumber_93 : decode cX5_readNumber 93 = .ok (.if_icmp .ne 15, 3) := by decide +kernel
theorem dX5_readNumber_96 : decode cX5_readNumber 96 = .ok (.aload_n 0, 1) := by decide +kernel
theorem dX5_readNumber_97 : decode cX5_readNumber 97 = .ok (.iconst 1, 1) := by decide +kernel
theorem dX5_readNumber_98 : decode cX5_readNumber 98 = .ok (.aload_n 0, 1) := by decide +kernel
theorem dX5_readNumber_99 : decode cX5_readNumber 99 = .ok (.getfield 19, 3) := by decide +kernel
theorem dX5_readNumber_102 : decode cX5_readNumber 102 = .ok (.invokevirtual 52, 3) := by decide +kernel
theorem dX5_readNumber_105 : decode cX5_readNumber 105 = .ok (.goto 29, 3) := by decide +kernel
theorem dX5_readNumber_108 : decode cX5_readNumber 108 = .ok (.aload_n 0, 1) := by decide +kernel
theorem dX5_readNumber_109 : decode cX5_readNumber 109 = .ok (.getfield 19, 3) := by decide +kernel
theorem dX5_readNumber_112 : decode cX5_readNumber 112 = .ok (.iload_n 3, 1) := by decide +kernel
theorem dX5_readNumber_113 : decode cX5_readNumber 113 = .ok (.isub, 1) := by decide +kernel
theorem dX5_readNumber_114 : decode cX5_readNumber 114 = .ok (.iconst 3, 1) := by decide +kernel
theorem dX5_readNumber_115 : decode cX5_readNumber 115 = .ok (.if_icmp .gt 13, 3) := by decide +kernel
theorem dX5_readNumber_118 : decode cX5_readNumber 118 = .ok (.iload 4, 2) := by decide +kernel
theorem dX5_readNumber_120 : decode cX5_readNumber 120 = .ok (.iload_n 1, 1) := by decide +kernel
theorem dX5_readNumber_121 : decode cX5_readNumber 121 = .ok (.iload_n 2, 1) := by decide +kernel
theorem dX5_readNumber_122 : decode cX5_readNumber 122 = .ok (.invokestatic 93, 3) := by decide +kernel
theorem dX5_readNumber_125 : decode cX5_readNumber 125 = .ok (.ifCond .ne 9, 3) := by decide +kernel
theorem dX5_readNumber_128 : decode cX5_readNumber 128 = .ok (.aload_n 0, 1) := by decide +kernel
theorem dX5_readNumber_129 : decode cX5_readNumber 129 = .ok (.iconst 2, 1) := by decide +kernel
theorem dX5_readNumber_130 : decode cX5_readNumber 130 = .ok (.iload_n 3, 1) := by decide +kernel
theorem dX5_readNumber_131 : decode cX5_readNumber 131 = .ok (.invokevirtual 52, 3) := by decide +kernel
theorem dX5_readNumber_134 : decode cX5_readNumber 134 = .ok (.iload 4, 2) := by decide +kernel
theorem dX5_readNumber_136 : decode cX5_readNumber 136 = .ok (.ireturn, 1) := by decide +kernel
set_option maxRecDepth 20000 in
theorem ggX5_readEnd_X5_skipBlanks : GoodIn wsX5_readEnd wsX5_skipBlanks := goodIn_r _ [9, 2, 3, 4, 10, 11, 12, 18, 19, 20, 21, 22] (by decide +kernel) (by decide +kernel)
set_option maxRecDepth 20000 in
theorem gX5_readEnd_X5_skipBlanks : GoodIn wsX5_readEnd (wsV RX5 37 RX5 yX5_skipBlanks wsX5_skipBlanks) := goodIn_app (goodIn_of _ (by decide +kernel)) ggX5_readEnd_X5_skipBlanks
set_option maxRecDepth 20000 in
theorem ggX5_readEnd_X7_at : GoodIn wsX5_readEnd wsX7_at := goodIn_r _ [12] (by decide +kernel) (by decide +kernel)
set_option maxRecDepth 20000 in
theorem gX5_readEnd_X7_at_n44 : GoodIn wsX5_readEnd (wsX7_at) := ggX5_readEnd_X7_at
set_option maxRecDepth 20000 in
theorem ggX5_readEnd_X5_fail : GoodIn wsX5_readEnd wsX5_fail := goodIn_r _ [16, 1, 17, 18, 19, 20, 21, 22] (by decide +kernel) (by decide +kernel)
set_option maxRecDepth 20000 in
theorem gX5_readEnd_X5_fail : GoodIn wsX5_readEnd (wsV RX5 52 RX5 yX5_fail wsX5_fail) := goodIn_app (goodIn_of _ (by decide +kernel)) ggX5_readEnd_X5_fail
theorem dX5_readEnd_0 : decode cX5_readEnd 0 = .ok (.aload_n 0, 1) := by decide +kernel
theorem dX5_readEnd_1 : decode cX5_readEnd 1 = .ok (.getfield 22, 3) := by decide +kernel
theorem dX5_readEnd_4 : decode cX5_readEnd 4 = .ok (.ifCond .eq 4, 3) := by decide +kernel
theorem dX5_readEnd_7 : decode cX5_readEnd 7 = .ok (.return_, 1) := by decide +kernel
theorem dX5_readEnd_8 : decode cX5_readEnd 8 = .ok (.aload_n 0, 1) := by decide +kernel
theorem dX5_readEnd_9 : decode cX5_readEnd 9 = .ok (.invokevirtual 37, 3) := by decide +kernel
theorem dX5_readEnd_12 : decode cX5_readEnd 12 = .ok (.aload_n 0, 1) := by decide +kernel
theorem dX5_readEnd_13 : decode cX5_readEnd 13 = .ok (.getfield 19, 3) := by decide +kernel
theorem dX5_readEnd_16 : decode cX5_readEnd 16 = .ok (.aload_n 0, 1) := by decide +kernel
theorem dX5_readEnd_17 : decode cX5_readEnd 17 = .ok (.getfield 15, 3) := by decide +kernel
theorem dX5_readEnd_20 : decode cX5_readEnd 20 = .ok (.if_icmp .ge 32, 3) := by decide +kernel
theorem dX5_readEnd_23 : decode cX5_readEnd 23 = .ok (.aload_n 0, 1) := by decide +kernel
theorem dX5_readEnd_24 : decode cX5_readEnd 24 = .ok (.getfield 9, 3) := by decide +kernel
theorem dX5_readEnd_27 : decode cX5_readEnd 27 = .ok (.aload_n 0, 1) := by decide +kernel
theorem dX5_readEnd_28 : decode cX5_readEnd 28 = .ok (.getfield 19, 3) := by decide +kernel
theorem dX5_readEnd_31 : decode cX5_readEnd 31 = .ok (.invokestatic 44, 3) := by decide +kernel
theorem dX5_readEnd_34 : decode cX5_readEnd 34 = .ok (.bipush 59, 2) := by decide +kernel
theorem dX5_readEnd_36 : decode cX5_readEnd 36 = .ok (.if_icmp .ne 16, 3) := by decide +kernel
theorem dX5_readEnd_39 : decode cX5_readEnd 39 = .ok (.aload_n 0, 1) := by decide +kernel
theorem dX5_readEnd_40 : decode cX5_readEnd 40 = .ok (.dup, 1) := by decide +kernel
theorem dX5_readEnd_41 : decode cX5_readEnd 41 = .ok (.getfield 19, 3) := by decide +kernel
theorem dX5_readEnd_44 : decode cX5_readEnd 44 = .ok (.iconst 1, 1) := by decide +kernel
theorem dX5_readEnd_45 : decode cX5_readEnd 45 = .ok (.iadd, 1) := by decide +kernel
theorem dX5_readEnd_46 : decode cX5_readEnd 46 = .ok (.putfield 19, 3) := by decide +kernel
theorem dX5_readEnd_49 : decode cX5_readEnd 49 = .ok (.goto 12, 3) := by decide +kernel
theorem dX5_readEnd_52 : decode cX5_readEnd 52 = .ok (.aload_n 0, 1) := by decide +kernel
theorem dX5_readEnd_53 : decode cX5_readEnd 53 = .ok (.iconst 1, 1) := by decide +kernel
theorem dX5_readEnd_54 : decode cX5_readEnd 54 = .ok (.aload_n 0, 1) := by decide +kernel
theorem dX5_readEnd_55 : decode cX5_readEnd 55 = .ok (.getfield 19, 3) := by decide +kernel
theorem dX5_readEnd_58 : decode cX5_readEnd 58 = .ok (.invokevirtual 52, 3) := by decide +kernel
theorem dX5_readEnd_61 : decode cX5_readEnd 61 = .ok (.return_, 1) := by decide +kernel
set_option maxRecDepth 20000 in
theorem ggX5_skipBlanks_X7_at : GoodIn wsX5_skipBlanks wsX7_at := goodIn_r _ [6] (by decide +kernel) (by decide +kernel)
set_option maxRecDepth 20000 in
theorem gX5_skipBlanks_X7_at_n44 : GoodIn wsX5_skipBlanks (wsX7_at) := ggX5_skipBlanks_X7_at
theorem dX5_skipBlanks_0 : decode cX5_skipBlanks 0 = .ok (.aload_n 0, 1) := by decide +kernel
theorem dX5_skipBlanks_1 : decode cX5_skipBlanks 1 = .ok (.getfield 19, 3) := by decide +kernel
theorem dX5_skipBlanks_4 : decode cX5_skipBlanks 4 = .ok (.aload_n 0, 1) := by decide +kernel
theorem dX5_skipBlanks_5 : decode cX5_skipBlanks 5 = .ok (.getfield 15, 3) := by decide +kernel
theorem dX5_skipBlanks_8 : decode cX5_skipBlanks 8 = .ok (.if_icmp .ge 32, 3) := by decide +kernel
theorem dX5_skipBlanks_11 : decode cX5_skipBlanks 11 = .ok (.aload_n 0, 1) := by decide +kernel
theorem dX5_skipBlanks_12 : decode cX5_skipBlanks 12 = .ok (.getfield 9, 3) := by decide +kernel
theorem dX5_skipBlanks_15 : decode cX5_skipBlanks 15 = .ok (.aload_n 0, 1) := by decide +kernel
theorem dX5_skipBlanks_16 : decode cX5_skipBlanks 16 = .ok (.getfield 19, 3) := by decide +kernel
theorem dX5_skipBlanks_19 : decode cX5_skipBlanks 19 = .ok (.invokestatic 44, 3) := by decide +kernel
theorem dX5_skipBlanks_22 : decode cX5_skipBlanks 22 = .ok (.bipush 32, 2) := by decide +kernel
theorem dX5_skipBlanks_24 : decode cX5_skipBlanks 24 = .ok (.if_icmp .ne 16, 3) := by decide +kernel
theorem dX5_skipBlanks_27 : decode cX5_skipBlanks 27 = .ok (.aload_n 0, 1) := by decide +kernel
theorem dX5_skipBlanks_28 : decode cX5_skipBlanks 28 = .ok (.dup, 1) := by decide +kernel
theorem dX5_skipBlanks_29 : decode cX5_skipBlanks 29 = .ok (.getfield 19, 3) := by decide +kernel
theorem dX5_skipBlanks_32 : decode cX5_skipBlanks 32 = .ok (.iconst 1, 1) := by decide +kernel
theorem dX5_skipBlanks_33 : decode cX5_skipBlanks 33 = .ok (.iadd, 1) := by decide +kernel
theorem dX5_skipBlanks_34 : decode cX5_skipBlanks 34 = .ok (.putfield 19, 3) := by decide +kernel
theorem dX5_skipBlanks_37 : decode cX5_skipBlanks 37 = .ok (.goto (-37), 3) := by decide +kernel
theorem dX5_skipBlanks_40 : decode cX5_skipBlanks 40 = .ok (.return_, 1) := by decide +kernel
theorem dX5_fail_0 : decode cX5_fail 0 = .ok (.aload_n 0, 1) := by decide +kernel
theorem dX5_fail_1 : decode cX5_fail 1 = .ok (.iload_n 1, 1) := by decide +kernel
theorem dX5_fail_2 : decode cX5_fail 2 = .ok (.putfield 22, 3) := by decide +kernel
theorem dX5_fail_5 : decode cX5_fail 5 = .ok (.aload_n 0, 1) := by decide +kernel
theorem dX5_fail_6 : decode cX5_fail 6 = .ok (.iload_n 2, 1) := by decide +kernel
theorem dX5_fail_7 : decode cX5_fail 7 = .ok (.putfield 25, 3) := by decide +kernel
theorem dX5_fail_10 : decode cX5_fail 10 = .ok (.return_, 1) := by decide +kernel
theorem dX6_init_0 : decode cX6_init 0 = .ok (.aload_n 0, 1) := by decide +kernel
theorem dX6_init_1 : decode cX6_init 1 = .ok (.invokespecial 3, 3) := by decide +kernel
theorem dX6_init_4 : decode cX6_init 4 = .ok (.aload_n 0, 1) := by decide +kernel
theorem dX6_init_5 : decode cX6_init 5 = .ok (.bipush 8, 2) := by decide +kernel
theorem dX6_init_7 : decode cX6_init 7 = .ok (.newarray .int, 2) := by decide +kernel
theorem dX6_init_9 : decode cX6_init 9 = .ok (.putfield 9, 3) := by decide +kernel
theorem dX6_init_12 : decode cX6_init 12 = .ok (.aload_n 0, 1) := by decide +kernel
theorem dX6_init_13 : decode cX6_init 13 = .ok (.iconst 0, 1) := by decide +kernel
theorem dX6_init_14 : decode cX6_init 14 = .ok (.putfield 15, 3) := by decide +kernel
theorem dX6_init_17 : decode cX6_init 17 = .ok (.aload_n 0, 1) := by decide +kernel
theorem dX6_init_18 : decode cX6_init 18 = .ok (.iconst 0, 1) := by decide +kernel
theorem dX6_init_19 : decode cX6_init 19 = .ok (.putfield 19, 3) := by decide +kernel
theorem dX6_init_22 : decode cX6_init 22 = .ok (.return_, 1) := by decide +kernel
set_option maxRecDepth 20000 in
theorem ggX6_add_X7_put : GoodIn wsX6_add wsX7_put := goodIn_r _ [6] (by decide +kernel) (by decide +kernel)
set_option maxRecDepth 20000 in
theorem gX6_add_X7_put_n22 : GoodIn wsX6_add (wsX7_put) := ggX6_add_X7_put
theorem dX6_add_0 : decode cX6_add 0 = .ok (.aload_n 0, 1) := by decide +kernel
theorem dX6_add_1 : decode cX6_add 1 = .ok (.getfield 19, 3) := by decide +kernel
theorem dX6_add_4 : decode cX6_add 4 = .ok (.bipush 8, 2) := by decide +kernel
theorem dX6_add_6 : decode cX6_add 6 = .ok (.if_icmp .lt 5, 3) := by decide +kernel
theorem dX6_add_9 : decode cX6_add 9 = .ok (.iconst 0, 1) := by decide +kernel
theorem dX6_add_10 : decode cX6_add 10 = .ok (.ireturn, 1) := by decide +kernel
theorem dX6_add_11 : decode cX6_add 11 = .ok (.aload_n 0, 1) := by decide +kernel
theorem dX6_add_12 : decode cX6_add 12 = .ok (.getfield 9, 3) := by decide +kernel
theorem dX6_add_15 : decode cX6_add 15 = .ok (.aload_n 0, 1) := by decide +kernel
theorem dX6_add_16 : decode cX6_add 16 = .ok (.getfield 19, 3) := by decide +kernel
theorem dX6_add_19 : decode cX6_add 19 = .ok (.iload_n 1, 1) := by decide +kernel
theorem dX6_add_20 : decode cX6_add 20 = .ok (.invokestatic 22, 3) := by decide +kernel
theorem dX6_add_23 : decode cX6_add 23 = .ok (.aload_n 0, 1) := by decide +kernel
theorem dX6_add_24 : decode cX6_add 24 = .ok (.iload_n 2, 1) := by decide +kernel
theorem dX6_add_25 : decode cX6_add 25 = .ok (.ifCond .eq 17, 3) := by decide +kernel
theorem dX6_add_28 : decode cX6_add 28 = .ok (.aload_n 0, 1) := by decide +kernel
theorem dX6_add_29 : decode cX6_add 29 = .ok (.getfield 15, 3) := by decide +kernel
theorem dX6_add_32 : decode cX6_add 32 = .ok (.iconst 1, 1) := by decide +kernel
theorem dX6_add_33 : decode cX6_add 33 = .ok (.aload_n 0, 1) := by decide +kernel
theorem dX6_add_34 : decode cX6_add 34 = .ok (.getfield 19, 3) := by decide +kernel
theorem dX6_add_37 : decode cX6_add 37 = .ok (.ishl, 1) := by decide +kernel
theorem dX6_add_38 : decode cX6_add 38 = .ok (.ior, 1) := by decide +kernel
theorem dX6_add_39 : decode cX6_add 39 = .ok (.goto 16, 3) := by decide +kernel
theorem dX6_add_42 : decode cX6_add 42 = .ok (.aload_n 0, 1) := by decide +kernel
theorem dX6_add_43 : decode cX6_add 43 = .ok (.getfield 15, 3) := by decide +kernel
theorem dX6_add_46 : decode cX6_add 46 = .ok (.iconst 1, 1) := by decide +kernel
theorem dX6_add_47 : decode cX6_add 47 = .ok (.aload_n 0, 1) := by decide +kernel
theorem dX6_add_48 : decode cX6_add 48 = .ok (.getfield 19, 3) := by decide +kernel
theorem dX6_add_51 : decode cX6_add 51 = .ok (.ishl, 1) := by decide +kernel
theorem dX6_add_52 : decode cX6_add 52 = .ok (.iconst (-1), 1) := by decide +kernel
theorem dX6_add_53 : decode cX6_add 53 = .ok (.ixor, 1) := by decide +kernel
theorem dX6_add_54 : decode cX6_add 54 = .ok (.iand, 1) := by decide +kernel
theorem dX6_add_55 : decode cX6_add 55 = .ok (.putfield 15, 3) := by decide +kernel
theorem dX6_add_58 : decode cX6_add 58 = .ok (.aload_n 0, 1) := by decide +kernel
theorem dX6_add_59 : decode cX6_add 59 = .ok (.dup, 1) := by decide +kernel
theorem dX6_add_60 : decode cX6_add 60 = .ok (.getfield 19, 3) := by decide +kernel
theorem dX6_add_63 : decode cX6_add 63 = .ok (.iconst 1, 1) := by decide +kernel
theorem dX6_add_64 : decode cX6_add 64 = .ok (.iadd, 1) := by decide +kernel
theorem dX6_add_65 : decode cX6_add 65 = .ok (.putfield 19, 3) := by decide +kernel
theorem dX6_add_68 : decode cX6_add 68 = .ok (.iconst 1, 1) := by decide +kernel
theorem dX6_add_69 : decode cX6_add 69 = .ok (.ireturn, 1) := by decide +kernel
set_option maxRecDepth 20000 in
theorem ggX6_isFitting_X7_at : GoodIn wsX6_isFitting wsX7_at := goodIn_r _ [6] (by decide +kernel) (by decide +kernel)
set_option maxRecDepth 20000 in
theorem gX6_isFitting_X7_at_n26 : GoodIn wsX6_isFitting (wsX7_at) := ggX6_isFitting_X7_at
set_option maxRecDepth 20000 in
theorem ggX6_isFitting_X2_goesOutOn : GoodIn wsX6_isFitting wsX2_goesOutOn := goodIn_r _ [11, 12, 13, 14, 10, 15, 16, 17, 18, 19, 20, 21, 4, 5, 6, 22, 23, 24, 25, 26, 27, 28, 29, 30, 31, 32, 33, 34, 35, 36, 37, 38, 39, 40, 44, 45, 46, 47, 48, 49, 50, 51, 52, 53] (by decide +kernel) (by decide +kernel)
set_option maxRecDepth 20000 in
theorem gX6_isFitting_X2_goesOutOn : GoodIn wsX6_isFitting (wsV RX6 30 RX2 yX2_goesOutOn wsX2_goesOutOn) := goodIn_app (goodIn_of _ (by decide +kernel)) ggX6_isFitting_X2_goesOutOn
set_option maxRecDepth 20000 in
theorem ggX6_isFitting_X7_holds : GoodIn wsX6_isFitting wsX7_holds := goodIn_r _ [40] (by decide +kernel) (by decide +kernel)
set_option maxRecDepth 20000 in
theorem gX6_isFitting_X7_holds_n36 : GoodIn wsX6_isFitting (wsX7_holds) := ggX6_isFitting_X7_holds
theorem dX6_isFitting_0 : decode cX6_isFitting 0 = .ok (.iconst 0, 1) := by decide +kernel
theorem dX6_isFitting_1 : decode cX6_isFitting 1 = .ok (.istore_n 3, 1) := by decide +kernel
theorem dX6_isFitting_2 : decode cX6_isFitting 2 = .ok (.iload_n 3, 1) := by decide +kernel
theorem dX6_isFitting_3 : decode cX6_isFitting 3 = .ok (.aload_n 0, 1) := by decide +kernel
theorem dX6_isFitting_4 : decode cX6_isFitting 4 = .ok (.getfield 19, 3) := by decide +kernel
theorem dX6_isFitting_7 : decode cX6_isFitting 7 = .ok (.if_icmp .ge 35, 3) := by decide +kernel
theorem dX6_isFitting_10 : decode cX6_isFitting 10 = .ok (.aload_n 1, 1) := by decide +kernel
theorem dX6_isFitting_11 : decode cX6_isFitting 11 = .ok (.iload_n 2, 1) := by decide +kernel
theorem dX6_isFitting_12 : decode cX6_isFitting 12 = .ok (.aload_n 0, 1) := by decide +kernel
theorem dX6_isFitting_13 : decode cX6_isFitting 13 = .ok (.getfield 9, 3) := by decide +kernel
theorem dX6_isFitting_16 : decode cX6_isFitting 16 = .ok (.iload_n 3, 1) := by decide +kernel
theorem dX6_isFitting_17 : decode cX6_isFitting 17 = .ok (.invokestatic 26, 3) := by decide +kernel
theorem dX6_isFitting_20 : decode cX6_isFitting 20 = .ok (.invokevirtual 30, 3) := by decide +kernel
theorem dX6_isFitting_23 : decode cX6_isFitting 23 = .ok (.aload_n 0, 1) := by decide +kernel
theorem dX6_isFitting_24 : decode cX6_isFitting 24 = .ok (.getfield 15, 3) := by decide +kernel
theorem dX6_isFitting_27 : decode cX6_isFitting 27 = .ok (.iload_n 3, 1) := by decide +kernel
theorem dX6_isFitting_28 : decode cX6_isFitting 28 = .ok (.invokestatic 36, 3) := by decide +kernel
theorem dX6_isFitting_31 : decode cX6_isFitting 31 = .ok (.if_icmp .eq 5, 3) := by decide +kernel
theorem dX6_isFitting_34 : decode cX6_isFitting 34 = .ok (.iconst 0, 1) := by decide +kernel
theorem dX6_isFitting_35 : decode cX6_isFitting 35 = .ok (.ireturn, 1) := by decide +kernel
theorem dX6_isFitting_36 : decode cX6_isFitting 36 = .ok (.iinc 3 1, 3) := by decide +kernel
theorem dX6_isFitting_39 : decode cX6_isFitting 39 = .ok (.goto (-37), 3) := by decide +kernel
theorem dX6_isFitting_42 : decode cX6_isFitting 42 = .ok (.iconst 1, 1) := by decide +kernel
theorem dX6_isFitting_43 : decode cX6_isFitting 43 = .ok (.ireturn, 1) := by decide +kernel
theorem dJ6_bitCount_0f7a4_0 : decode cJ6_bitCount_0f7a4 0 = .ok (.iload_n 0, 1) := by decide +kernel
theorem dJ6_bitCount_0f7a4_1 : decode cJ6_bitCount_0f7a4 1 = .ok (.iload_n 0, 1) := by decide +kernel
theorem dJ6_bitCount_0f7a4_2 : decode cJ6_bitCount_0f7a4 2 = .ok (.iconst 1, 1) := by decide +kernel
theorem dJ6_bitCount_0f7a4_3 : decode cJ6_bitCount_0f7a4 3 = .ok (.iushr, 1) := by decide +kernel
theorem dJ6_bitCount_0f7a4_4 : decode cJ6_bitCount_0f7a4 4 = .ok (.ldc_w 265, 3) := by decide +kernel
theorem dJ6_bitCount_0f7a4_7 : decode cJ6_bitCount_0f7a4 7 = .ok (.iand, 1) := by decide +kernel
theorem dJ6_bitCount_0f7a4_8 : decode cJ6_bitCount_0f7a4 8 = .ok (.isub, 1) := by decide +kernel
theorem dJ6_bitCount_0f7a4_9 : decode cJ6_bitCount_0f7a4 9 = .ok (.istore_n 0, 1) := by decide +kernel
theorem dJ6_bitCount_0f7a4_10 : decode cJ6_bitCount_0f7a4 10 = .ok (.iload_n 0, 1) := by decide +kernel
theorem dJ6_bitCount_0f7a4_11 : decode cJ6_bitCount_0f7a4 11 = .ok (.ldc_w 266, 3) := by decide +kernel
theorem dJ6_bitCount_0f7a4_14 : decode cJ6_bitCount_0f7a4 14 = .ok (.iand, 1) := by decide +kernel
theorem dJ6_bitCount_0f7a4_15 : decode cJ6_bitCount_0f7a4 15 = .ok (.iload_n 0, 1) := by decide +kernel
theorem dJ6_bitCount_0f7a4_16 : decode cJ6_bitCount_0f7a4 16 = .ok (.iconst 2, 1) := by decide +kernel
theorem dJ6_bitCount_0f7a4_17 : decode cJ6_bitCount_0f7a4 17 = .ok (.iushr, 1) := by decide +kernel
theorem dJ6_bitCount_0f7a4_18 : decode cJ6_bitCount_0f7a4 18 = .ok (.ldc_w 266, 3) := by decide +kernel
theorem dJ6_bitCount_0f7a4_21 : decode cJ6_bitCount_0f7a4 21 = .ok (.iand, 1) := by decide +kernel
theorem dJ6_bitCount_0f7a4_22 : decode cJ6_bitCount_0f7a4 22 = .ok (.iadd, 1) := by decide +kernel
theorem dJ6_bitCount_0f7a4_23 : decode cJ6_bitCount_0f7a4 23 = .ok (.istore_n 0, 1) := by decide +kernel
theorem dJ6_bitCount_0f7a4_24 : decode cJ6_bitCount_0f7a4 24 = .ok (.iload_n 0, 1) := by decide +kernel
theorem dJ6_bitCount_0f7a4_25 : decode cJ6_bitCount_0f7a4 25 = .ok (.iload_n 0, 1) := by decide +kernel
theorem dJ6_bitCount_0f7a4_26 : decode cJ6_bitCount_0f7a4 26 = .ok (.iconst 4, 1) := by decide +kernel
theorem dJ6_bitCount_0f7a4_27 : decode cJ6_bitCount_0f7a4 27 = .ok (.iushr, 1) := by decide +kernel
theorem dJ6_bitCount_0f7a4_28 : decode cJ6_bitCount_0f7a4 28 = .ok (.iadd, 1) := by decide +kernel
theorem dJ6_bitCount_0f7a4_29 : decode cJ6_bitCount_0f7a4 29 = .ok (.ldc_w 267, 3) := by decide +kernel
theorem dJ6_bitCount_0f7a4_32 : decode cJ6_bitCount_0f7a4 32 = .ok (.iand, 1) := by decide +kernel
theorem dJ6_bitCount_0f7a4_33 : decode cJ6_bitCount_0f7a4 33 = .ok (.istore_n 0, 1) := by decide +kernel
theorem dJ6_bitCount_0f7a4_34 : decode cJ6_bitCount_0f7a4 34 = .ok (.iload_n 0, 1) := by decide +kernel
theorem dJ6_bitCount_0f7a4_35 : decode cJ6_bitCount_0f7a4 35 = .ok (.iload_n 0, 1) := by decide +kernel
theorem dJ6_bitCount_0f7a4_36 : decode cJ6_bitCount_0f7a4 36 = .ok (.bipush 8, 2) := by decide +kernel
theorem dJ6_bitCount_0f7a4_38 : decode cJ6_bitCount_0f7a4 38 = .ok (.iushr, 1) := by decide +kernel
theorem dJ6_bitCount_0f7a4_39 : decode cJ6_bitCount_0f7a4 39 = .ok (.iadd, 1) := by decide +kernel
theorem dJ6_bitCount_0f7a4_40 : decode cJ6_bitCount_0f7a4 40 = .ok (.istore_n 0, 1) := by decide +kernel
theorem dJ6_bitCount_0f7a4_41 : decode cJ6_bitCount_0f7a4 41 = .ok (.iload_n 0, 1) := by decide +kernel
theorem dJ6_bitCount_0f7a4_42 : decode cJ6_bitCount_0f7a4 42 = .ok (.iload_n 0, 1) := by decide +kernel
theorem dJ6_bitCount_0f7a4_43 : decode cJ6_bitCount_0f7a4 43 = .ok (.bipush 16, 2) := by decide +kernel
theorem dJ6_bitCount_0f7a4_45 : decode cJ6_bitCount_0f7a4 45 = .ok (.iushr, 1) := by decide +kernel
theorem dJ6_bitCount_0f7a4_46 : decode cJ6_bitCount_0f7a4 46 = .ok (.iadd, 1) := by decide +kernel
theorem dJ6_bitCount_0f7a4_47 : decode cJ6_bitCount_0f7a4 47 = .ok (.istore_n 0, 1) := by decide +kernel
theorem dJ6_bitCount_0f7a4_48 : decode cJ6_bitCount_0f7a4 48 = .ok (.iload_n 0, 1) := by decide +kernel
theorem dJ6_bitCount_0f7a4_49 : decode cJ6_bitCount_0f7a4 49 = .ok (.bipush 63, 2) := by decide +kernel
theorem dJ6_bitCount_0f7a4_51 : decode cJ6_bitCount_0f7a4 51 = .ok (.iand, 1) := by decide +kernel
theorem dJ6_bitCount_0f7a4_52 : decode cJ6_bitCount_0f7a4 52 = .ok (.ireturn, 1) := by decide +kernel
theorem dJ9_max_7cf53_0 : decode cJ9_max_7cf53 0 = .ok (.iload_n 0, 1) := by decide +kernel
theorem dJ9_max_7cf53_1 : decode cJ9_max_7cf53 1 = .ok (.iload_n 1, 1) := by decide +kernel
theorem dJ9_max_7cf53_2 : decode cJ9_max_7cf53 2 = .ok (.if_icmp .lt 7, 3) := by decide +kernel
theorem dJ9_max_7cf53_5 : decode cJ9_max_7cf53 5 = .ok (.iload_n 0, 1) := by decide +kernel
theorem dJ9_max_7cf53_6 : decode cJ9_max_7cf53 6 = .ok (.goto 4, 3) := by decide +kernel
theorem dJ9_max_7cf53_9 : decode cJ9_max_7cf53 9 = .ok (.iload_n 1, 1) := by decide +kernel
theorem dJ9_max_7cf53_10 : decode cJ9_max_7cf53 10 = .ok (.ireturn, 1) := by decide +kernel
theorem dJ9_min_7cf53_0 : decode cJ9_min_7cf53 0 = .ok (.iload_n 0, 1) := by decide +kernel
theorem dJ9_min_7cf53_1 : decode cJ9_min_7cf53 1 = .ok (.iload_n 1, 1) := by decide +kernel
theorem dJ9_min_7cf53_2 : decode cJ9_min_7cf53 2 = .ok (.if_icmp .gt 7, 3) := by decide +kernel
theorem dJ9_min_7cf53_5 : decode cJ9_min_7cf53 5 = .ok (.iload_n 0, 1) := by decide +kernel
theorem dJ9_min_7cf53_6 : decode cJ9_min_7cf53 6 = .ok (.goto 4, 3) := by decide +kernel
theorem dJ9_min_7cf53_9 : decode cJ9_min_7cf53 9 = .ok (.iload_n 1, 1) := by decide +kernel
theorem dJ9_min_7cf53_10 : decode cJ9_min_7cf53 10 = .ok (.ireturn, 1) := by decide +kernel
