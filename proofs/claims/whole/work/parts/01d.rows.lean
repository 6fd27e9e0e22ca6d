theorem dX8_init_0 : decode cX8_init 0 = .ok (.aload_n 0, 1) := by decide +kernel
theorem dX8_init_1 : decode cX8_init 1 = .ok (.invokespecial 1, 3) := by decide +kernel
theorem dX8_init_4 : decode cX8_init 4 = .ok (.aload_n 0, 1) := by decide +kernel
theorem dX8_init_5 : decode cX8_init 5 = .ok (.bipush 8, 2) := by decide +kernel
theorem dX8_init_7 : decode cX8_init 7 = .ok (.newarray .int, 2) := by decide +kernel
theorem dX8_init_9 : decode cX8_init 9 = .ok (.putfield 7, 3) := by decide +kernel
theorem dX8_init_12 : decode cX8_init 12 = .ok (.aload_n 0, 1) := by decide +kernel
theorem dX8_init_13 : decode cX8_init 13 = .ok (.bipush 8, 2) := by decide +kernel
theorem dX8_init_15 : decode cX8_init 15 = .ok (.newarray .int, 2) := by decide +kernel
theorem dX8_init_17 : decode cX8_init 17 = .ok (.putfield 13, 3) := by decide +kernel
theorem dX8_init_20 : decode cX8_init 20 = .ok (.aload_n 0, 1) := by decide +kernel
theorem dX8_init_21 : decode cX8_init 21 = .ok (.bipush 8, 2) := by decide +kernel
theorem dX8_init_23 : decode cX8_init 23 = .ok (.newarray .int, 2) := by decide +kernel
theorem dX8_init_25 : decode cX8_init 25 = .ok (.putfield 16, 3) := by decide +kernel
theorem dX8_init_28 : decode cX8_init 28 = .ok (.aload_n 0, 1) := by decide +kernel
theorem dX8_init_29 : decode cX8_init 29 = .ok (.bipush 10, 2) := by decide +kernel
theorem dX8_init_31 : decode cX8_init 31 = .ok (.newarray .int, 2) := by decide +kernel
theorem dX8_init_33 : decode cX8_init 33 = .ok (.putfield 19, 3) := by decide +kernel
theorem dX8_init_36 : decode cX8_init 36 = .ok (.aload_n 0, 1) := by decide +kernel
theorem dX8_init_37 : decode cX8_init 37 = .ok (.bipush 10, 2) := by decide +kernel
theorem dX8_init_39 : decode cX8_init 39 = .ok (.newarray .int, 2) := by decide +kernel
theorem dX8_init_41 : decode cX8_init 41 = .ok (.putfield 22, 3) := by decide +kernel
theorem dX8_init_44 : decode cX8_init 44 = .ok (.aload_n 0, 1) := by decide +kernel
theorem dX8_init_45 : decode cX8_init 45 = .ok (.bipush 10, 2) := by decide +kernel
theorem dX8_init_47 : decode cX8_init 47 = .ok (.newarray .int, 2) := by decide +kernel
theorem dX8_init_49 : decode cX8_init 49 = .ok (.putfield 25, 3) := by decide +kernel
theorem dX8_init_52 : decode cX8_init 52 = .ok (.aload_n 0, 1) := by decide +kernel
theorem dX8_init_53 : decode cX8_init 53 = .ok (.bipush 13, 2) := by decide +kernel
theorem dX8_init_55 : decode cX8_init 55 = .ok (.newarray .int, 2) := by decide +kernel
theorem dX8_init_57 : decode cX8_init 57 = .ok (.putfield 28, 3) := by decide +kernel
theorem dX8_init_60 : decode cX8_init 60 = .ok (.aload_n 0, 1) := by decide +kernel
theorem dX8_init_61 : decode cX8_init 61 = .ok (.sipush 240, 3) := by decide +kernel
theorem dX8_init_64 : decode cX8_init 64 = .ok (.newarray .int, 2) := by decide +kernel
theorem dX8_init_66 : decode cX8_init 66 = .ok (.putfield 31, 3) := by decide +kernel
theorem dX8_init_69 : decode cX8_init 69 = .ok (.aload_n 0, 1) := by decide +kernel
theorem dX8_init_70 : decode cX8_init 70 = .ok (.iconst (-1), 1) := by decide +kernel
theorem dX8_init_71 : decode cX8_init 71 = .ok (.putfield 34, 3) := by decide +kernel
theorem dX8_init_74 : decode cX8_init 74 = .ok (.aload_n 0, 1) := by decide +kernel
theorem dX8_init_75 : decode cX8_init 75 = .ok (.iconst 1, 1) := by decide +kernel
theorem dX8_init_76 : decode cX8_init 76 = .ok (.newarray .int, 2) := by decide +kernel
theorem dX8_init_78 : decode cX8_init 78 = .ok (.putfield 38, 3) := by decide +kernel
theorem dX8_init_81 : decode cX8_init 81 = .ok (.aload_n 0, 1) := by decide +kernel
theorem dX8_init_82 : decode cX8_init 82 = .ok (.bipush 8, 2) := by decide +kernel
theorem dX8_init_84 : decode cX8_init 84 = .ok (.newarray .int, 2) := by decide +kernel
theorem dX8_init_86 : decode cX8_init 86 = .ok (.putfield 41, 3) := by decide +kernel
theorem dX8_init_89 : decode cX8_init 89 = .ok (.aload_n 0, 1) := by decide +kernel
theorem dX8_init_90 : decode cX8_init 90 = .ok (.bipush 8, 2) := by decide +kernel
theorem dX8_init_92 : decode cX8_init 92 = .ok (.newarray .int, 2) := by decide +kernel
theorem dX8_init_94 : decode cX8_init 94 = .ok (.putfield 44, 3) := by decide +kernel
theorem dX8_init_97 : decode cX8_init 97 = .ok (.aload_n 0, 1) := by decide +kernel
theorem dX8_init_98 : decode cX8_init 98 = .ok (.bipush 8, 2) := by decide +kernel
theorem dX8_init_100 : decode cX8_init 100 = .ok (.newarray .int, 2) := by decide +kernel
theorem dX8_init_102 : decode cX8_init 102 = .ok (.putfield 47, 3) := by decide +kernel
theorem dX8_init_105 : decode cX8_init 105 = .ok (.aload_n 0, 1) := by decide +kernel
theorem dX8_init_106 : decode cX8_init 106 = .ok (.bipush 8, 2) := by decide +kernel
theorem dX8_init_108 : decode cX8_init 108 = .ok (.newarray .int, 2) := by decide +kernel
theorem dX8_init_110 : decode cX8_init 110 = .ok (.putfield 50, 3) := by decide +kernel
theorem dX8_init_113 : decode cX8_init 113 = .ok (.aload_n 0, 1) := by decide +kernel
theorem dX8_init_114 : decode cX8_init 114 = .ok (.bipush 10, 2) := by decide +kernel
theorem dX8_init_116 : decode cX8_init 116 = .ok (.newarray .int, 2) := by decide +kernel
theorem dX8_init_118 : decode cX8_init 118 = .ok (.putfield 53, 3) := by decide +kernel
theorem dX8_init_121 : decode cX8_init 121 = .ok (.aload_n 0, 1) := by decide +kernel
theorem dX8_init_122 : decode cX8_init 122 = .ok (.bipush 10, 2) := by decide +kernel
theorem dX8_init_124 : decode cX8_init 124 = .ok (.newarray .int, 2) := by decide +kernel
theorem dX8_init_126 : decode cX8_init 126 = .ok (.putfield 56, 3) := by decide +kernel
theorem dX8_init_129 : decode cX8_init 129 = .ok (.aload_n 0, 1) := by decide +kernel
theorem dX8_init_130 : decode cX8_init 130 = .ok (.bipush 10, 2) := by decide +kernel
theorem dX8_init_132 : decode cX8_init 132 = .ok (.newarray .int, 2) := by decide +kernel
theorem dX8_init_134 : decode cX8_init 134 = .ok (.putfield 59, 3) := by decide +kernel
theorem dX8_init_137 : decode cX8_init 137 = .ok (.aload_n 0, 1) := by decide +kernel
theorem dX8_init_138 : decode cX8_init 138 = .ok (.sipush 260, 3) := by decide +kernel
theorem dX8_init_141 : decode cX8_init 141 = .ok (.newarray .int, 2) := by decide +kernel
theorem dX8_init_143 : decode cX8_init 143 = .ok (.putfield 62, 3) := by decide +kernel
theorem dX8_init_146 : decode cX8_init 146 = .ok (.aload_n 0, 1) := by decide +kernel
theorem dX8_init_147 : decode cX8_init 147 = .ok (.bipush 8, 2) := by decide +kernel
theorem dX8_init_149 : decode cX8_init 149 = .ok (.newarray .int, 2) := by decide +kernel
theorem dX8_init_151 : decode cX8_init 151 = .ok (.putfield 65, 3) := by decide +kernel
theorem dX8_init_154 : decode cX8_init 154 = .ok (.aload_n 0, 1) := by decide +kernel
theorem dX8_init_155 : decode cX8_init 155 = .ok (.bipush 6, 2) := by decide +kernel
theorem dX8_init_157 : decode cX8_init 157 = .ok (.newarray .int, 2) := by decide +kernel
theorem dX8_init_159 : decode cX8_init 159 = .ok (.putfield 68, 3) := by decide +kernel
theorem dX8_init_162 : decode cX8_init 162 = .ok (.aload_n 0, 1) := by decide +kernel
theorem dX8_init_163 : decode cX8_init 163 = .ok (.bipush 8, 2) := by decide +kernel
theorem dX8_init_165 : decode cX8_init 165 = .ok (.newarray .int, 2) := by decide +kernel
theorem dX8_init_167 : decode cX8_init 167 = .ok (.putfield 71, 3) := by decide +kernel
theorem dX8_init_170 : decode cX8_init 170 = .ok (.aload_n 0, 1) := by decide +kernel
theorem dX8_init_171 : decode cX8_init 171 = .ok (.bipush 8, 2) := by decide +kernel
theorem dX8_init_173 : decode cX8_init 173 = .ok (.newarray .boolean, 2) := by decide +kernel
theorem dX8_init_175 : decode cX8_init 175 = .ok (.putfield 74, 3) := by decide +kernel
theorem dX8_init_178 : decode cX8_init 178 = .ok (.aload_n 0, 1) := by decide +kernel
theorem dX8_init_179 : decode cX8_init 179 = .ok (.bipush 15, 2) := by decide +kernel
theorem dX8_init_181 : decode cX8_init 181 = .ok (.newarray .int, 2) := by decide +kernel
theorem dX8_init_183 : decode cX8_init 183 = .ok (.putfield 78, 3) := by decide +kernel
theorem dX8_init_186 : decode cX8_init 186 = .ok (.aload_n 0, 1) := by decide +kernel
theorem dX8_init_187 : decode cX8_init 187 = .ok (.bipush 15, 2) := by decide +kernel
theorem dX8_init_189 : decode cX8_init 189 = .ok (.newarray .int, 2) := by decide +kernel
theorem dX8_init_191 : decode cX8_init 191 = .ok (.putfield 81, 3) := by decide +kernel
theorem dX8_init_194 : decode cX8_init 194 = .ok (.aload_n 0, 1) := by decide +kernel
theorem dX8_init_195 : decode cX8_init 195 = .ok (.bipush 28, 2) := by decide +kernel
theorem dX8_init_197 : decode cX8_init 197 = .ok (.newarray .int, 2) := by decide +kernel
theorem dX8_init_199 : decode cX8_init 199 = .ok (.putfield 84, 3) := by decide +kernel
theorem dX8_init_202 : decode cX8_init 202 = .ok (.aload_n 0, 1) := by decide +kernel
theorem dX8_init_203 : decode cX8_init 203 = .ok (.iconst 2, 1) := by decide +kernel
theorem dX8_init_204 : decode cX8_init 204 = .ok (.newarray .boolean, 2) := by decide +kernel
theorem dX8_init_206 : decode cX8_init 206 = .ok (.putfield 87, 3) := by decide +kernel
theorem dX8_init_209 : decode cX8_init 209 = .ok (.aload_n 0, 1) := by decide +kernel
theorem dX8_init_210 : decode cX8_init 210 = .ok (.iconst 0, 1) := by decide +kernel
theorem dX8_init_211 : decode cX8_init 211 = .ok (.putfield 90, 3) := by decide +kernel
theorem dX8_init_214 : decode cX8_init 214 = .ok (.return_, 1) := by decide +kernel
theorem dX8_in_0 : decode cX8_in 0 = .ok (.lload_n 0, 1) := by decide +kernel
theorem dX8_in_1 : decode cX8_in 1 = .ok (.lload_n 2, 1) := by decide +kernel
theorem dX8_in_2 : decode cX8_in 2 = .ok (.lcmp, 1) := by decide +kernel
theorem dX8_in_3 : decode cX8_in 3 = .ok (.ifCond .lt 14, 3) := by decide +kernel
theorem dX8_in_6 : decode cX8_in 6 = .ok (.lload_n 0, 1) := by decide +kernel
theorem dX8_in_7 : decode cX8_in 7 = .ok (.lload 4, 2) := by decide +kernel
theorem dX8_in_9 : decode cX8_in 9 = .ok (.lcmp, 1) := by decide +kernel
theorem dX8_in_10 : decode cX8_in 10 = .ok (.ifCond .gt 7, 3) := by decide +kernel
theorem dX8_in_13 : decode cX8_in 13 = .ok (.iconst 1, 1) := by decide +kernel
theorem dX8_in_14 : decode cX8_in 14 = .ok (.goto 4, 3) := by decide +kernel
theorem dX8_in_17 : decode cX8_in 17 = .ok (.iconst 0, 1) := by decide +kernel
theorem dX8_in_18 : decode cX8_in 18 = .ok (.ireturn, 1) := by decide +kernel
theorem dX8_has_0 : decode cX8_has 0 = .ok (.iload_n 0, 1) := by decide +kernel
theorem dX8_has_1 : decode cX8_has 1 = .ok (.iload_n 1, 1) := by decide +kernel
theorem dX8_has_2 : decode cX8_has 2 = .ok (.ishr, 1) := by decide +kernel
theorem dX8_has_3 : decode cX8_has 3 = .ok (.iconst 1, 1) := by decide +kernel
theorem dX8_has_4 : decode cX8_has 4 = .ok (.iand, 1) := by decide +kernel
theorem dX8_has_5 : decode cX8_has 5 = .ok (.iconst 1, 1) := by decide +kernel
theorem dX8_has_6 : decode cX8_has 6 = .ok (.if_icmp .ne 7, 3) := by decide +kernel
theorem dX8_has_9 : decode cX8_has 9 = .ok (.iconst 1, 1) := by decide +kernel
theorem dX8_has_10 : decode cX8_has 10 = .ok (.goto 4, 3) := by decide +kernel
theorem dX8_has_13 : decode cX8_has 13 = .ok (.iconst 0, 1) := by decide +kernel
theorem dX8_has_14 : decode cX8_has 14 = .ok (.ireturn, 1) := by decide +kernel
theorem dX8_bits_0 : decode cX8_bits 0 = .ok (.iconst 0, 1) := by decide +kernel
theorem dX8_bits_1 : decode cX8_bits 1 = .ok (.istore_n 1, 1) := by decide +kernel
theorem dX8_bits_2 : decode cX8_bits 2 = .ok (.iconst 0, 1) := by decide +kernel
theorem dX8_bits_3 : decode cX8_bits 3 = .ok (.istore_n 2, 1) := by decide +kernel
theorem dX8_bits_4 : decode cX8_bits 4 = .ok (.iload_n 2, 1) := by decide +kernel
theorem dX8_bits_5 : decode cX8_bits 5 = .ok (.bipush 8, 2) := by decide +kernel
theorem dX8_bits_7 : decode cX8_bits 7 = .ok (.if_icmp .ge 17, 3) := by decide +kernel
theorem dX8_bits_10 : decode cX8_bits 10 = .ok (.iload_n 1, 1) := by decide +kernel
theorem dX8_bits_11 : decode cX8_bits 11 = .ok (.iload_n 0, 1) := by decide +kernel
theorem dX8_bits_12 : decode cX8_bits 12 = .ok (.iload_n 2, 1) := by decide +kernel
theorem dX8_bits_13 : decode cX8_bits 13 = .ok (.ishr, 1) := by decide +kernel
theorem dX8_bits_14 : decode cX8_bits 14 = .ok (.iconst 1, 1) := by decide +kernel
theorem dX8_bits_15 : decode cX8_bits 15 = .ok (.iand, 1) := by decide +kernel
theorem dX8_bits_16 : decode cX8_bits 16 = .ok (.iadd, 1) := by decide +kernel
theorem dX8_bits_17 : decode cX8_bits 17 = .ok (.istore_n 1, 1) := by decide +kernel
theorem dX8_bits_18 : decode cX8_bits 18 = .ok (.iinc 2 1, 3) := by decide +kernel
theorem dX8_bits_21 : decode cX8_bits 21 = .ok (.goto (-17), 3) := by decide +kernel
theorem dX8_bits_24 : decode cX8_bits 24 = .ok (.iload_n 1, 1) := by decide +kernel
theorem dX8_bits_25 : decode cX8_bits 25 = .ok (.ireturn, 1) := by decide +kernel
set_option maxRecDepth 20000 in
theorem ggX8_least_X8_has : GoodIn wsX8_least wsX8_has := goodIn_r _ [4] (by decide +kernel) (by decide +kernel)
set_option maxRecDepth 20000 in
theorem gX8_least_X8_has : GoodIn wsX8_least (va_wsS RX8 93 yX8_has wsX8_has) := goodIn_app (goodIn_of _ (by decide +kernel)) ggX8_least_X8_has
theorem dX8_least_0 : decode cX8_least 0 = .ok (.iconst 0, 1) := by decide +kernel
theorem dX8_least_1 : decode cX8_least 1 = .ok (.istore_n 1, 1) := by decide +kernel
theorem dX8_least_2 : decode cX8_least 2 = .ok (.iload_n 0, 1) := by decide +kernel
theorem dX8_least_3 : decode cX8_least 3 = .ok (.iload_n 1, 1) := by decide +kernel
theorem dX8_least_4 : decode cX8_least 4 = .ok (.invokestatic 93, 3) := by decide +kernel
theorem dX8_least_7 : decode cX8_least 7 = .ok (.ifCond .ne 9, 3) := by decide +kernel
theorem dX8_least_10 : decode cX8_least 10 = .ok (.iinc 1 1, 3) := by decide +kernel
theorem dX8_least_13 : decode cX8_least 13 = .ok (.goto (-11), 3) := by decide +kernel
theorem dX8_least_16 : decode cX8_least 16 = .ok (.iload_n 1, 1) := by decide +kernel
theorem dX8_least_17 : decode cX8_least 17 = .ok (.ireturn, 1) := by decide +kernel
set_option maxRecDepth 20000 in
theorem ggX8_isPerson_X8_in : GoodIn wsX8_isPerson wsX8_in := goodIn_r _ [5] (by decide +kernel) (by decide +kernel)
set_option maxRecDepth 20000 in
theorem gX8_isPerson_X8_in : GoodIn wsX8_isPerson (va_wsS RX8 97 yX8_in wsX8_in) := goodIn_app (goodIn_of _ (by decide +kernel)) ggX8_isPerson_X8_in
theorem dX8_isPerson_0 : decode cX8_isPerson 0 = .ok (.iload_n 1, 1) := by decide +kernel
theorem dX8_isPerson_1 : decode cX8_isPerson 1 = .ok (.i2l, 1) := by decide +kernel
theorem dX8_isPerson_2 : decode cX8_isPerson 2 = .ok (.lconst 0, 1) := by decide +kernel
theorem dX8_isPerson_3 : decode cX8_isPerson 3 = .ok (.aload_n 0, 1) := by decide +kernel
theorem dX8_isPerson_4 : decode cX8_isPerson 4 = .ok (.getfield 28, 3) := by decide +kernel
theorem dX8_isPerson_7 : decode cX8_isPerson 7 = .ok (.bipush 8, 2) := by decide +kernel
theorem dX8_isPerson_9 : decode cX8_isPerson 9 = .ok (.iaload, 1) := by decide +kernel
theorem dX8_isPerson_10 : decode cX8_isPerson 10 = .ok (.iconst 1, 1) := by decide +kernel
theorem dX8_isPerson_11 : decode cX8_isPerson 11 = .ok (.isub, 1) := by decide +kernel
theorem dX8_isPerson_12 : decode cX8_isPerson 12 = .ok (.i2l, 1) := by decide +kernel
theorem dX8_isPerson_13 : decode cX8_isPerson 13 = .ok (.invokestatic 97, 3) := by decide +kernel
theorem dX8_isPerson_16 : decode cX8_isPerson 16 = .ok (.ireturn, 1) := by decide +kernel
set_option maxRecDepth 20000 in
theorem ggX8_lives_X8_has : GoodIn wsX8_lives wsX8_has := goodIn_r _ [5] (by decide +kernel) (by decide +kernel)
set_option maxRecDepth 20000 in
theorem gX8_lives_X8_has : GoodIn wsX8_lives (va_wsS RX8 93 yX8_has wsX8_has) := goodIn_app (goodIn_of _ (by decide +kernel)) ggX8_lives_X8_has
theorem dX8_lives_0 : decode cX8_lives 0 = .ok (.aload_n 0, 1) := by decide +kernel
theorem dX8_lives_1 : decode cX8_lives 1 = .ok (.getfield 28, 3) := by decide +kernel
theorem dX8_lives_4 : decode cX8_lives 4 = .ok (.bipush 9, 2) := by decide +kernel
theorem dX8_lives_6 : decode cX8_lives 6 = .ok (.iaload, 1) := by decide +kernel
theorem dX8_lives_7 : decode cX8_lives 7 = .ok (.iload_n 1, 1) := by decide +kernel
theorem dX8_lives_8 : decode cX8_lives 8 = .ok (.invokestatic 93, 3) := by decide +kernel
theorem dX8_lives_11 : decode cX8_lives 11 = .ok (.ireturn, 1) := by decide +kernel
set_option maxRecDepth 20000 in
theorem ggX8_feed_X8_in : GoodIn wsX8_feed wsX8_in := goodIn_r _ [9] (by decide +kernel) (by decide +kernel)
set_option maxRecDepth 20000 in
theorem gX8_feed_X8_in : GoodIn wsX8_feed (va_wsS RX8 97 yX8_in wsX8_in) := goodIn_app (goodIn_of _ (by decide +kernel)) ggX8_feed_X8_in
theorem dX8_feed_0 : decode cX8_feed 0 = .ok (.iload_n 1, 1) := by decide +kernel
theorem dX8_feed_1 : decode cX8_feed 1 = .ok (.i2l, 1) := by decide +kernel
theorem dX8_feed_2 : decode cX8_feed 2 = .ok (.lconst 0, 1) := by decide +kernel
theorem dX8_feed_3 : decode cX8_feed 3 = .ok (.ldc2_w 101, 3) := by decide +kernel
theorem dX8_feed_6 : decode cX8_feed 6 = .ok (.invokestatic 97, 3) := by decide +kernel
theorem dX8_feed_9 : decode cX8_feed 9 = .ok (.ifCond .ne 6, 3) := by decide +kernel
theorem dX8_feed_12 : decode cX8_feed 12 = .ok (.ldc 103, 2) := by decide +kernel
theorem dX8_feed_14 : decode cX8_feed 14 = .ok (.ireturn, 1) := by decide +kernel
theorem dX8_feed_15 : decode cX8_feed 15 = .ok (.aload_n 0, 1) := by decide +kernel
theorem dX8_feed_16 : decode cX8_feed 16 = .ok (.getfield 104, 3) := by decide +kernel
theorem dX8_feed_19 : decode cX8_feed 19 = .ok (.sipush 240, 3) := by decide +kernel
theorem dX8_feed_22 : decode cX8_feed 22 = .ok (.if_icmp .ne 6, 3) := by decide +kernel
theorem dX8_feed_25 : decode cX8_feed 25 = .ok (.ldc 107, 2) := by decide +kernel
theorem dX8_feed_27 : decode cX8_feed 27 = .ok (.ireturn, 1) := by decide +kernel
theorem dX8_feed_28 : decode cX8_feed 28 = .ok (.aload_n 0, 1) := by decide +kernel
theorem dX8_feed_29 : decode cX8_feed 29 = .ok (.getfield 31, 3) := by decide +kernel
theorem dX8_feed_32 : decode cX8_feed 32 = .ok (.aload_n 0, 1) := by decide +kernel
theorem dX8_feed_33 : decode cX8_feed 33 = .ok (.getfield 104, 3) := by decide +kernel
theorem dX8_feed_36 : decode cX8_feed 36 = .ok (.iload_n 1, 1) := by decide +kernel
theorem dX8_feed_37 : decode cX8_feed 37 = .ok (.iastore, 1) := by decide +kernel
theorem dX8_feed_38 : decode cX8_feed 38 = .ok (.aload_n 0, 1) := by decide +kernel
theorem dX8_feed_39 : decode cX8_feed 39 = .ok (.dup, 1) := by decide +kernel
theorem dX8_feed_40 : decode cX8_feed 40 = .ok (.getfield 104, 3) := by decide +kernel
theorem dX8_feed_43 : decode cX8_feed 43 = .ok (.iconst 1, 1) := by decide +kernel
theorem dX8_feed_44 : decode cX8_feed 44 = .ok (.iadd, 1) := by decide +kernel
theorem dX8_feed_45 : decode cX8_feed 45 = .ok (.putfield 104, 3) := by decide +kernel
theorem dX8_feed_48 : decode cX8_feed 48 = .ok (.aload_n 0, 1) := by decide +kernel
theorem dX8_feed_49 : decode cX8_feed 49 = .ok (.getfield 104, 3) := by decide +kernel
theorem dX8_feed_52 : decode cX8_feed 52 = .ok (.ireturn, 1) := by decide +kernel
theorem dX8_here_0 : decode cX8_here 0 = .ok (.aload_n 0, 1) := by decide +kernel
theorem dX8_here_1 : decode cX8_here 1 = .ok (.getfield 108, 3) := by decide +kernel
theorem dX8_here_4 : decode cX8_here 4 = .ok (.aload_n 0, 1) := by decide +kernel
theorem dX8_here_5 : decode cX8_here 5 = .ok (.getfield 104, 3) := by decide +kernel
theorem dX8_here_8 : decode cX8_here 8 = .ok (.if_icmp .ge 30, 3) := by decide +kernel
theorem dX8_here_11 : decode cX8_here 11 = .ok (.aload_n 0, 1) := by decide +kernel
theorem dX8_here_12 : decode cX8_here 12 = .ok (.getfield 31, 3) := by decide +kernel
theorem dX8_here_15 : decode cX8_here 15 = .ok (.aload_n 0, 1) := by decide +kernel
theorem dX8_here_16 : decode cX8_here 16 = .ok (.getfield 108, 3) := by decide +kernel
theorem dX8_here_19 : decode cX8_here 19 = .ok (.iaload, 1) := by decide +kernel
theorem dX8_here_20 : decode cX8_here 20 = .ok (.bipush 32, 2) := by decide +kernel
theorem dX8_here_22 : decode cX8_here 22 = .ok (.if_icmp .ne 16, 3) := by decide +kernel
theorem dX8_here_25 : decode cX8_here 25 = .ok (.aload_n 0, 1) := by decide +kernel
theorem dX8_here_26 : decode cX8_here 26 = .ok (.dup, 1) := by decide +kernel
theorem dX8_here_27 : decode cX8_here 27 = .ok (.getfield 108, 3) := by decide +kernel
theorem dX8_here_30 : decode cX8_here 30 = .ok (.iconst 1, 1) := by decide +kernel
theorem dX8_here_31 : decode cX8_here 31 = .ok (.iadd, 1) := by decide +kernel
theorem dX8_here_32 : decode cX8_here 32 = .ok (.putfield 108, 3) := by decide +kernel
theorem dX8_here_35 : decode cX8_here 35 = .ok (.goto (-35), 3) := by decide +kernel
theorem dX8_here_38 : decode cX8_here 38 = .ok (.aload_n 0, 1) := by decide +kernel
theorem dX8_here_39 : decode cX8_here 39 = .ok (.getfield 108, 3) := by decide +kernel
theorem dX8_here_42 : decode cX8_here 42 = .ok (.aload_n 0, 1) := by decide +kernel
theorem dX8_here_43 : decode cX8_here 43 = .ok (.getfield 104, 3) := by decide +kernel
theorem dX8_here_46 : decode cX8_here 46 = .ok (.if_icmp .ge 15, 3) := by decide +kernel
theorem dX8_here_49 : decode cX8_here 49 = .ok (.aload_n 0, 1) := by decide +kernel
theorem dX8_here_50 : decode cX8_here 50 = .ok (.getfield 31, 3) := by decide +kernel
theorem dX8_here_53 : decode cX8_here 53 = .ok (.aload_n 0, 1) := by decide +kernel
theorem dX8_here_54 : decode cX8_here 54 = .ok (.getfield 108, 3) := by decide +kernel
theorem dX8_here_57 : decode cX8_here 57 = .ok (.iaload, 1) := by decide +kernel
theorem dX8_here_58 : decode cX8_here 58 = .ok (.goto 4, 3) := by decide +kernel
theorem dX8_here_61 : decode cX8_here 61 = .ok (.iconst (-1), 1) := by decide +kernel
theorem dX8_here_62 : decode cX8_here 62 = .ok (.ireturn, 1) := by decide +kernel
theorem dX8_fails_0 : decode cX8_fails 0 = .ok (.aload_n 0, 1) := by decide +kernel
theorem dX8_fails_1 : decode cX8_fails 1 = .ok (.iload_n 2, 1) := by decide +kernel
theorem dX8_fails_2 : decode cX8_fails 2 = .ok (.putfield 34, 3) := by decide +kernel
theorem dX8_fails_5 : decode cX8_fails 5 = .ok (.iload_n 1, 1) := by decide +kernel
theorem dX8_fails_6 : decode cX8_fails 6 = .ok (.ireturn, 1) := by decide +kernel
set_option maxRecDepth 20000 in
theorem ggX8_takeNumber_X8_here : GoodIn wsX8_takeNumber wsX8_here := goodIn_r _ [12, 3, 6, 7, 21, 22, 23, 24, 25, 26, 27, 28, 29, 30, 31, 32, 33, 34, 35, 36, 37, 38, 39, 40, 41, 42, 43, 44, 45, 46, 47, 48, 49, 50, 51, 52, 53, 54, 55, 56, 57, 58] (by decide +kernel) (by decide +kernel)
set_option maxRecDepth 20000 in
theorem gX8_takeNumber_X8_here : GoodIn wsX8_takeNumber (wsV RX8 111 RX8 yX8_here wsX8_here) := goodIn_app (goodIn_of _ (by decide +kernel)) ggX8_takeNumber_X8_here
set_option maxRecDepth 20000 in
theorem ggX8_takeNumber_X8_in : GoodIn wsX8_takeNumber wsX8_in := goodIn_r _ [15] (by decide +kernel) (by decide +kernel)
set_option maxRecDepth 20000 in
theorem gX8_takeNumber_X8_in : GoodIn wsX8_takeNumber (va_wsS RX8 97 yX8_in wsX8_in) := goodIn_app (goodIn_of _ (by decide +kernel)) ggX8_takeNumber_X8_in
set_option maxRecDepth 20000 in
theorem ggX8_takeNumber_X8_fails : GoodIn wsX8_takeNumber wsX8_fails := goodIn_r _ [19, 20, 21, 22, 23, 24, 25, 26, 27, 28, 29, 30, 31, 32, 33, 34, 35, 36, 37, 38, 39, 40, 41, 42, 43, 44, 45, 46, 47, 48, 49, 50, 51, 52, 53, 54, 55, 56, 57, 58] (by decide +kernel) (by decide +kernel)
set_option maxRecDepth 20000 in
theorem gX8_takeNumber_X8_fails : GoodIn wsX8_takeNumber (wsV RX8 119 RX8 yX8_fails wsX8_fails) := goodIn_app (goodIn_of _ (by decide +kernel)) ggX8_takeNumber_X8_fails
theorem dX8_takeNumber_0 : decode cX8_takeNumber 0 = .ok (.aload_n 0, 1) := by decide +kernel
theorem dX8_takeNumber_1 : decode cX8_takeNumber 1 = .ok (.invokevirtual 111, 3) := by decide +kernel
theorem dX8_takeNumber_4 : decode cX8_takeNumber 4 = .ok (.istore_n 3, 1) := by decide +kernel
theorem dX8_takeNumber_5 : decode cX8_takeNumber 5 = .ok (.iload_n 3, 1) := by decide +kernel
theorem dX8_takeNumber_6 : decode cX8_takeNumber 6 = .ok (.i2l, 1) := by decide +kernel
theorem dX8_takeNumber_7 : decode cX8_takeNumber 7 = .ok (.ldc2_w 115, 3) := by decide +kernel
theorem dX8_takeNumber_10 : decode cX8_takeNumber 10 = .ok (.ldc2_w 117, 3) := by decide +kernel
theorem dX8_takeNumber_13 : decode cX8_takeNumber 13 = .ok (.invokestatic 97, 3) := by decide +kernel
theorem dX8_takeNumber_16 : decode cX8_takeNumber 16 = .ok (.ifCond .ne 13, 3) := by decide +kernel
theorem dX8_takeNumber_19 : decode cX8_takeNumber 19 = .ok (.aload_n 0, 1) := by decide +kernel
theorem dX8_takeNumber_20 : decode cX8_takeNumber 20 = .ok (.iconst 1, 1) := by decide +kernel
theorem dX8_takeNumber_21 : decode cX8_takeNumber 21 = .ok (.aload_n 0, 1) := by decide +kernel
theorem dX8_takeNumber_22 : decode cX8_takeNumber 22 = .ok (.getfield 108, 3) := by decide +kernel
theorem dX8_takeNumber_25 : decode cX8_takeNumber 25 = .ok (.invokevirtual 119, 3) := by decide +kernel
theorem dX8_takeNumber_28 : decode cX8_takeNumber 28 = .ok (.ireturn, 1) := by decide +kernel
theorem dX8_takeNumber_29 : decode cX8_takeNumber 29 = .ok (.aload_n 0, 1) := by decide +kernel
theorem dX8_takeNumber_30 : decode cX8_takeNumber 30 = .ok (.aload_n 0, 1) := by decide +kernel
theorem dX8_takeNumber_31 : decode cX8_takeNumber 31 = .ok (.getfield 108, 3) := by decide +kernel
theorem dX8_takeNumber_34 : decode cX8_takeNumber 34 = .ok (.putfield 123, 3) := by decide +kernel
theorem dX8_takeNumber_37 : decode cX8_takeNumber 37 = .ok (.aload_n 0, 1) := by decide +kernel
theorem dX8_takeNumber_38 : decode cX8_takeNumber 38 = .ok (.iconst 0, 1) := by decide +kernel
theorem dX8_takeNumber_39 : decode cX8_takeNumber 39 = .ok (.putfield 126, 3) := by decide +kernel
theorem dX8_takeNumber_42 : decode cX8_takeNumber 42 = .ok (.aload_n 0, 1) := by decide +kernel
theorem dX8_takeNumber_43 : decode cX8_takeNumber 43 = .ok (.getfield 108, 3) := by decide +kernel
theorem dX8_takeNumber_46 : decode cX8_takeNumber 46 = .ok (.aload_n 0, 1) := by decide +kernel
theorem dX8_takeNumber_47 : decode cX8_takeNumber 47 = .ok (.getfield 104, 3) := by decide +kernel
theorem dX8_takeNumber_50 : decode cX8_takeNumber 50 = .ok (.if_icmp .ge 79, 3) := by decide +kernel
theorem dX8_takeNumber_53 : decode cX8_takeNumber 53 = .ok (.aload_n 0, 1) := by decide +kernel
theorem dX8_takeNumber_54 : decode cX8_takeNumber 54 = .ok (.getfield 31, 3) := by decide +kernel
theorem dX8_takeNumber_57 : decode cX8_takeNumber 57 = .ok (.aload_n 0, 1) := by decide +kernel
theorem dX8_takeNumber_58 : decode cX8_takeNumber 58 = .ok (.getfield 108, 3) := by decide +kernel
theorem dX8_takeNumber_61 : decode cX8_takeNumber 61 = .ok (.iaload, 1) := by decide +kernel
theorem dX8_takeNumber_62 : decode cX8_takeNumber 62 = .ok (.i2l, 1) := by decide +kernel
theorem dX8_takeNumber_63 : decode cX8_takeNumber 63 = .ok (.ldc2_w 115, 3) := by decide +kernel
theorem dX8_takeNumber_66 : decode cX8_takeNumber 66 = .ok (.ldc2_w 117, 3) := by decide +kernel
theorem dX8_takeNumber_69 : decode cX8_takeNumber 69 = .ok (.invokestatic 97, 3) := by decide +kernel
theorem dX8_takeNumber_72 : decode cX8_takeNumber 72 = .ok (.ifCond .eq 57, 3) := by decide +kernel
theorem dX8_takeNumber_75 : decode cX8_takeNumber 75 = .ok (.aload_n 0, 1) := by decide +kernel
theorem dX8_takeNumber_76 : decode cX8_takeNumber 76 = .ok (.aload_n 0, 1) := by decide +kernel
theorem dX8_takeNumber_77 : decode cX8_takeNumber 77 = .ok (.getfield 126, 3) := by decide +kernel
theorem dX8_takeNumber_80 : decode cX8_takeNumber 80 = .ok (.sipush 10000, 3) := by decide +kernel
theorem dX8_takeNumber_83 : decode cX8_takeNumber 83 = .ok (.if_icmp .le 10, 3) := by decide +kernel
theorem dX8_takeNumber_86 : decode cX8_takeNumber 86 = .ok (.aload_n 0, 1) := by decide +kernel
theorem dX8_takeNumber_87 : decode cX8_takeNumber 87 = .ok (.getfield 126, 3) := by decide +kernel
theorem dX8_takeNumber_90 : decode cX8_takeNumber 90 = .ok (.goto 23, 3) := by decide +kernel
theorem dX8_takeNumber_93 : decode cX8_takeNumber 93 = .ok (.bipush 10, 2) := by decide +kernel
theorem dX8_takeNumber_95 : decode cX8_takeNumber 95 = .ok (.aload_n 0, 1) := by decide +kernel
theorem dX8_takeNumber_96 : decode cX8_takeNumber 96 = .ok (.getfield 126, 3) := by decide +kernel
theorem dX8_takeNumber_99 : decode cX8_takeNumber 99 = .ok (.imul, 1) := by decide +kernel
theorem dX8_takeNumber_100 : decode cX8_takeNumber 100 = .ok (.aload_n 0, 1) := by decide +kernel
theorem dX8_takeNumber_101 : decode cX8_takeNumber 101 = .ok (.getfield 31, 3) := by decide +kernel
theorem dX8_takeNumber_104 : decode cX8_takeNumber 104 = .ok (.aload_n 0, 1) := by decide +kernel
theorem dX8_takeNumber_105 : decode cX8_takeNumber 105 = .ok (.getfield 108, 3) := by decide +kernel
theorem dX8_takeNumber_108 : decode cX8_takeNumber 108 = .ok (.iaload, 1) := by decide +kernel
theorem dX8_takeNumber_109 : decode cX8_takeNumber 109 = .ok (.iadd, 1) := by decide +kernel
theorem dX8_takeNumber_110 : decode cX8_takeNumber 110 = .ok (.bipush 48, 2) := by decide +kernel
theorem dX8_takeNumber_112 : decode cX8_takeNumber 112 = .ok (.isub, 1) := by decide +kernel
theorem dX8_takeNumber_113 : decode cX8_takeNumber 113 = .ok (.putfield 126, 3) := by decide +kernel
theorem dX8_takeNumber_116 : decode cX8_takeNumber 116 = .ok (.aload_n 0, 1) := by decide +kernel
theorem dX8_takeNumber_117 : decode cX8_takeNumber 117 = .ok (.dup, 1) := by decide +kernel
theorem dX8_takeNumber_118 : decode cX8_takeNumber 118 = .ok (.getfield 108, 3) := by decide +kernel
theorem dX8_takeNumber_121 : decode cX8_takeNumber 121 = .ok (.iconst 1, 1) := by decide +kernel
theorem dX8_takeNumber_122 : decode cX8_takeNumber 122 = .ok (.iadd, 1) := by decide +kernel
theorem dX8_takeNumber_123 : decode cX8_takeNumber 123 = .ok (.putfield 108, 3) := by decide +kernel
theorem dX8_takeNumber_126 : decode cX8_takeNumber 126 = .ok (.goto (-84), 3) := by decide +kernel
theorem dX8_takeNumber_129 : decode cX8_takeNumber 129 = .ok (.aload_n 0, 1) := by decide +kernel
theorem dX8_takeNumber_130 : decode cX8_takeNumber 130 = .ok (.getfield 108, 3) := by decide +kernel
theorem dX8_takeNumber_133 : decode cX8_takeNumber 133 = .ok (.aload_n 0, 1) := by decide +kernel
theorem dX8_takeNumber_134 : decode cX8_takeNumber 134 = .ok (.getfield 123, 3) := by decide +kernel
theorem dX8_takeNumber_137 : decode cX8_takeNumber 137 = .ok (.isub, 1) := by decide +kernel
theorem dX8_takeNumber_138 : decode cX8_takeNumber 138 = .ok (.iconst 3, 1) := by decide +kernel
theorem dX8_takeNumber_139 : decode cX8_takeNumber 139 = .ok (.if_icmp .gt 18, 3) := by decide +kernel
theorem dX8_takeNumber_142 : decode cX8_takeNumber 142 = .ok (.aload_n 0, 1) := by decide +kernel
theorem dX8_takeNumber_143 : decode cX8_takeNumber 143 = .ok (.getfield 126, 3) := by decide +kernel
theorem dX8_takeNumber_146 : decode cX8_takeNumber 146 = .ok (.i2l, 1) := by decide +kernel
theorem dX8_takeNumber_147 : decode cX8_takeNumber 147 = .ok (.iload_n 1, 1) := by decide +kernel
theorem dX8_takeNumber_148 : decode cX8_takeNumber 148 = .ok (.i2l, 1) := by decide +kernel
theorem dX8_takeNumber_149 : decode cX8_takeNumber 149 = .ok (.iload_n 2, 1) := by decide +kernel
theorem dX8_takeNumber_150 : decode cX8_takeNumber 150 = .ok (.i2l, 1) := by decide +kernel
theorem dX8_takeNumber_151 : decode cX8_takeNumber 151 = .ok (.invokestatic 97, 3) := by decide +kernel
theorem dX8_takeNumber_154 : decode cX8_takeNumber 154 = .ok (.ifCond .ne 15, 3) := by decide +kernel
theorem dX8_takeNumber_157 : decode cX8_takeNumber 157 = .ok (.aload_n 0, 1) := by decide +kernel
theorem dX8_takeNumber_158 : decode cX8_takeNumber 158 = .ok (.iconst 2, 1) := by decide +kernel
theorem dX8_takeNumber_159 : decode cX8_takeNumber 159 = .ok (.aload_n 0, 1) := by decide +kernel
theorem dX8_takeNumber_160 : decode cX8_takeNumber 160 = .ok (.getfield 123, 3) := by decide +kernel
theorem dX8_takeNumber_163 : decode cX8_takeNumber 163 = .ok (.invokevirtual 119, 3) := by decide +kernel
theorem dX8_takeNumber_166 : decode cX8_takeNumber 166 = .ok (.goto 4, 3) := by decide +kernel
theorem dX8_takeNumber_169 : decode cX8_takeNumber 169 = .ok (.iconst 0, 1) := by decide +kernel
theorem dX8_takeNumber_170 : decode cX8_takeNumber 170 = .ok (.ireturn, 1) := by decide +kernel
set_option maxRecDepth 20000 in
theorem ggX8_into_X8_takeNumber : GoodIn wsX8_into wsX8_takeNumber := goodIn_r _ [6, 7, 8, 9, 10, 1, 11, 12, 13, 14, 15, 5, 16, 17, 18, 19, 20, 21, 22, 23, 24, 25, 26, 27, 28, 29, 30, 31, 32, 33, 34, 35, 36, 37, 38, 39, 40, 41, 42, 43, 44, 45, 46, 47, 48, 49, 50, 51, 52, 53, 54, 55, 56, 57, 58, 59, 60, 61, 62] (by decide +kernel) (by decide +kernel)
set_option maxRecDepth 20000 in
theorem gX8_into_X8_takeNumber : GoodIn wsX8_into (wsV RX8 129 RX8 yX8_takeNumber wsX8_takeNumber) := goodIn_app (goodIn_of _ (by decide +kernel)) ggX8_into_X8_takeNumber
theorem dX8_into_0 : decode cX8_into 0 = .ok (.aload_n 0, 1) := by decide +kernel
theorem dX8_into_1 : decode cX8_into 1 = .ok (.iload_n 3, 1) := by decide +kernel
theorem dX8_into_2 : decode cX8_into 2 = .ok (.iload 4, 2) := by decide +kernel
theorem dX8_into_4 : decode cX8_into 4 = .ok (.invokevirtual 129, 3) := by decide +kernel
theorem dX8_into_7 : decode cX8_into 7 = .ok (.istore 5, 2) := by decide +kernel
theorem dX8_into_9 : decode cX8_into 9 = .ok (.aload_n 1, 1) := by decide +kernel
theorem dX8_into_10 : decode cX8_into 10 = .ok (.iload_n 2, 1) := by decide +kernel
theorem dX8_into_11 : decode cX8_into 11 = .ok (.aload_n 0, 1) := by decide +kernel
theorem dX8_into_12 : decode cX8_into 12 = .ok (.getfield 126, 3) := by decide +kernel
theorem dX8_into_15 : decode cX8_into 15 = .ok (.iastore, 1) := by decide +kernel
theorem dX8_into_16 : decode cX8_into 16 = .ok (.iload 5, 2) := by decide +kernel
theorem dX8_into_18 : decode cX8_into 18 = .ok (.ireturn, 1) := by decide +kernel
set_option maxRecDepth 20000 in
theorem ggX8_takePerson_X8_into : GoodIn wsX8_takePerson wsX8_into := goodIn_r _ [10, 11, 12, 13, 14, 9, 15, 16, 17, 18, 19, 20, 21, 22, 23, 24, 25, 26, 27, 28, 29, 30, 31, 32, 33, 34, 35, 36, 37, 38, 39, 40, 41, 42, 43, 44, 45, 46, 47, 48, 49, 50, 51, 52, 53, 54, 55, 56, 57, 58, 59, 60, 61, 62, 63, 64, 65, 66, 67, 68, 69, 70, 71] (by decide +kernel) (by decide +kernel)
set_option maxRecDepth 20000 in
theorem gX8_takePerson_X8_into : GoodIn wsX8_takePerson (wsV RX8 135 RX8 yX8_into wsX8_into) := goodIn_app (goodIn_of _ (by decide +kernel)) ggX8_takePerson_X8_into
theorem dX8_takePerson_0 : decode cX8_takePerson 0 = .ok (.aload_n 0, 1) := by decide +kernel
theorem dX8_takePerson_1 : decode cX8_takePerson 1 = .ok (.getfield 132, 3) := by decide +kernel
theorem dX8_takePerson_4 : decode cX8_takePerson 4 = .ok (.istore_n 1, 1) := by decide +kernel
theorem dX8_takePerson_5 : decode cX8_takePerson 5 = .ok (.aload_n 0, 1) := by decide +kernel
theorem dX8_takePerson_6 : decode cX8_takePerson 6 = .ok (.dup, 1) := by decide +kernel
theorem dX8_takePerson_7 : decode cX8_takePerson 7 = .ok (.getfield 132, 3) := by decide +kernel
theorem dX8_takePerson_10 : decode cX8_takePerson 10 = .ok (.iconst 1, 1) := by decide +kernel
theorem dX8_takePerson_11 : decode cX8_takePerson 11 = .ok (.iadd, 1) := by decide +kernel
theorem dX8_takePerson_12 : decode cX8_takePerson 12 = .ok (.putfield 132, 3) := by decide +kernel
theorem dX8_takePerson_15 : decode cX8_takePerson 15 = .ok (.aload_n 0, 1) := by decide +kernel
theorem dX8_takePerson_16 : decode cX8_takePerson 16 = .ok (.aload_n 0, 1) := by decide +kernel
theorem dX8_takePerson_17 : decode cX8_takePerson 17 = .ok (.getfield 41, 3) := by decide +kernel
theorem dX8_takePerson_20 : decode cX8_takePerson 20 = .ok (.iload_n 1, 1) := by decide +kernel
theorem dX8_takePerson_21 : decode cX8_takePerson 21 = .ok (.iconst 0, 1) := by decide +kernel
theorem dX8_takePerson_22 : decode cX8_takePerson 22 = .ok (.sipush 255, 3) := by decide +kernel
theorem dX8_takePerson_25 : decode cX8_takePerson 25 = .ok (.invokevirtual 135, 3) := by decide +kernel
theorem dX8_takePerson_28 : decode cX8_takePerson 28 = .ok (.istore_n 2, 1) := by decide +kernel
theorem dX8_takePerson_29 : decode cX8_takePerson 29 = .ok (.iload_n 2, 1) := by decide +kernel
theorem dX8_takePerson_30 : decode cX8_takePerson 30 = .ok (.ifCond .le 7, 3) := by decide +kernel
theorem dX8_takePerson_33 : decode cX8_takePerson 33 = .ok (.iload_n 2, 1) := by decide +kernel
theorem dX8_takePerson_34 : decode cX8_takePerson 34 = .ok (.goto 15, 3) := by decide +kernel
theorem dX8_takePerson_37 : decode cX8_takePerson 37 = .ok (.aload_n 0, 1) := by decide +kernel
theorem dX8_takePerson_38 : decode cX8_takePerson 38 = .ok (.aload_n 0, 1) := by decide +kernel
theorem dX8_takePerson_39 : decode cX8_takePerson 39 = .ok (.getfield 44, 3) := by decide +kernel
theorem dX8_takePerson_42 : decode cX8_takePerson 42 = .ok (.iload_n 1, 1) := by decide +kernel
theorem dX8_takePerson_43 : decode cX8_takePerson 43 = .ok (.iconst 0, 1) := by decide +kernel
theorem dX8_takePerson_44 : decode cX8_takePerson 44 = .ok (.bipush 7, 2) := by decide +kernel
theorem dX8_takePerson_46 : decode cX8_takePerson 46 = .ok (.invokevirtual 135, 3) := by decide +kernel
theorem dX8_takePerson_49 : decode cX8_takePerson 49 = .ok (.istore_n 2, 1) := by decide +kernel
theorem dX8_takePerson_50 : decode cX8_takePerson 50 = .ok (.iload_n 2, 1) := by decide +kernel
theorem dX8_takePerson_51 : decode cX8_takePerson 51 = .ok (.ifCond .le 7, 3) := by decide +kernel
theorem dX8_takePerson_54 : decode cX8_takePerson 54 = .ok (.iload_n 2, 1) := by decide +kernel
theorem dX8_takePerson_55 : decode cX8_takePerson 55 = .ok (.goto 15, 3) := by decide +kernel
theorem dX8_takePerson_58 : decode cX8_takePerson 58 = .ok (.aload_n 0, 1) := by decide +kernel
theorem dX8_takePerson_59 : decode cX8_takePerson 59 = .ok (.aload_n 0, 1) := by decide +kernel
theorem dX8_takePerson_60 : decode cX8_takePerson 60 = .ok (.getfield 47, 3) := by decide +kernel
theorem dX8_takePerson_63 : decode cX8_takePerson 63 = .ok (.iload_n 1, 1) := by decide +kernel
theorem dX8_takePerson_64 : decode cX8_takePerson 64 = .ok (.iconst 0, 1) := by decide +kernel
theorem dX8_takePerson_65 : decode cX8_takePerson 65 = .ok (.bipush 15, 2) := by decide +kernel
theorem dX8_takePerson_67 : decode cX8_takePerson 67 = .ok (.invokevirtual 135, 3) := by decide +kernel
theorem dX8_takePerson_70 : decode cX8_takePerson 70 = .ok (.istore_n 2, 1) := by decide +kernel
theorem dX8_takePerson_71 : decode cX8_takePerson 71 = .ok (.iload_n 2, 1) := by decide +kernel
theorem dX8_takePerson_72 : decode cX8_takePerson 72 = .ok (.ifCond .le 7, 3) := by decide +kernel
theorem dX8_takePerson_75 : decode cX8_takePerson 75 = .ok (.iload_n 2, 1) := by decide +kernel
theorem dX8_takePerson_76 : decode cX8_takePerson 76 = .ok (.goto 15, 3) := by decide +kernel
theorem dX8_takePerson_79 : decode cX8_takePerson 79 = .ok (.aload_n 0, 1) := by decide +kernel
theorem dX8_takePerson_80 : decode cX8_takePerson 80 = .ok (.aload_n 0, 1) := by decide +kernel
theorem dX8_takePerson_81 : decode cX8_takePerson 81 = .ok (.getfield 50, 3) := by decide +kernel
theorem dX8_takePerson_84 : decode cX8_takePerson 84 = .ok (.iload_n 1, 1) := by decide +kernel
theorem dX8_takePerson_85 : decode cX8_takePerson 85 = .ok (.iconst 0, 1) := by decide +kernel
theorem dX8_takePerson_86 : decode cX8_takePerson 86 = .ok (.bipush 9, 2) := by decide +kernel
theorem dX8_takePerson_88 : decode cX8_takePerson 88 = .ok (.invokevirtual 135, 3) := by decide +kernel
theorem dX8_takePerson_91 : decode cX8_takePerson 91 = .ok (.ireturn, 1) := by decide +kernel
set_option maxRecDepth 20000 in
theorem ggX8_takeDay_X8_into : GoodIn wsX8_takeDay wsX8_into := goodIn_r _ [9, 10, 11, 12, 13, 8, 14, 15, 16, 17, 18, 19, 20, 21, 22, 23, 24, 25, 26, 27, 28, 29, 30, 31, 32, 33, 34, 35, 36, 37, 38, 39, 40, 41, 42, 43, 44, 45, 46, 47, 48, 49, 50, 51, 52, 53, 54, 55, 56, 57, 58, 59, 60, 61, 62, 63, 64, 65, 66, 67, 68, 69, 70] (by decide +kernel) (by decide +kernel)
set_option maxRecDepth 20000 in
theorem gX8_takeDay_X8_into : GoodIn wsX8_takeDay (wsV RX8 135 RX8 yX8_into wsX8_into) := goodIn_app (goodIn_of _ (by decide +kernel)) ggX8_takeDay_X8_into
theorem dX8_takeDay_0 : decode cX8_takeDay 0 = .ok (.aload_n 0, 1) := by decide +kernel
theorem dX8_takeDay_1 : decode cX8_takeDay 1 = .ok (.getfield 139, 3) := by decide +kernel
theorem dX8_takeDay_4 : decode cX8_takeDay 4 = .ok (.istore_n 1, 1) := by decide +kernel
theorem dX8_takeDay_5 : decode cX8_takeDay 5 = .ok (.aload_n 0, 1) := by decide +kernel
theorem dX8_takeDay_6 : decode cX8_takeDay 6 = .ok (.dup, 1) := by decide +kernel
theorem dX8_takeDay_7 : decode cX8_takeDay 7 = .ok (.getfield 139, 3) := by decide +kernel
theorem dX8_takeDay_10 : decode cX8_takeDay 10 = .ok (.iconst 1, 1) := by decide +kernel
theorem dX8_takeDay_11 : decode cX8_takeDay 11 = .ok (.iadd, 1) := by decide +kernel
theorem dX8_takeDay_12 : decode cX8_takeDay 12 = .ok (.putfield 139, 3) := by decide +kernel
theorem dX8_takeDay_15 : decode cX8_takeDay 15 = .ok (.aload_n 0, 1) := by decide +kernel
theorem dX8_takeDay_16 : decode cX8_takeDay 16 = .ok (.aload_n 0, 1) := by decide +kernel
theorem dX8_takeDay_17 : decode cX8_takeDay 17 = .ok (.getfield 53, 3) := by decide +kernel
theorem dX8_takeDay_20 : decode cX8_takeDay 20 = .ok (.iload_n 1, 1) := by decide +kernel
theorem dX8_takeDay_21 : decode cX8_takeDay 21 = .ok (.iconst 0, 1) := by decide +kernel
theorem dX8_takeDay_22 : decode cX8_takeDay 22 = .ok (.iconst 2, 1) := by decide +kernel
theorem dX8_takeDay_23 : decode cX8_takeDay 23 = .ok (.invokevirtual 135, 3) := by decide +kernel
theorem dX8_takeDay_26 : decode cX8_takeDay 26 = .ok (.istore_n 2, 1) := by decide +kernel
theorem dX8_takeDay_27 : decode cX8_takeDay 27 = .ok (.iload_n 2, 1) := by decide +kernel
theorem dX8_takeDay_28 : decode cX8_takeDay 28 = .ok (.ifCond .le 7, 3) := by decide +kernel
theorem dX8_takeDay_31 : decode cX8_takeDay 31 = .ok (.iload_n 2, 1) := by decide +kernel
theorem dX8_takeDay_32 : decode cX8_takeDay 32 = .ok (.goto 14, 3) := by decide +kernel
theorem dX8_takeDay_35 : decode cX8_takeDay 35 = .ok (.aload_n 0, 1) := by decide +kernel
theorem dX8_takeDay_36 : decode cX8_takeDay 36 = .ok (.aload_n 0, 1) := by decide +kernel
theorem dX8_takeDay_37 : decode cX8_takeDay 37 = .ok (.getfield 56, 3) := by decide +kernel
theorem dX8_takeDay_40 : decode cX8_takeDay 40 = .ok (.iload_n 1, 1) := by decide +kernel
theorem dX8_takeDay_41 : decode cX8_takeDay 41 = .ok (.iconst 0, 1) := by decide +kernel
theorem dX8_takeDay_42 : decode cX8_takeDay 42 = .ok (.iconst 3, 1) := by decide +kernel
theorem dX8_takeDay_43 : decode cX8_takeDay 43 = .ok (.invokevirtual 135, 3) := by decide +kernel
theorem dX8_takeDay_46 : decode cX8_takeDay 46 = .ok (.istore_n 2, 1) := by decide +kernel
theorem dX8_takeDay_47 : decode cX8_takeDay 47 = .ok (.iload_n 2, 1) := by decide +kernel
theorem dX8_takeDay_48 : decode cX8_takeDay 48 = .ok (.ifCond .le 7, 3) := by decide +kernel
theorem dX8_takeDay_51 : decode cX8_takeDay 51 = .ok (.iload_n 2, 1) := by decide +kernel
theorem dX8_takeDay_52 : decode cX8_takeDay 52 = .ok (.goto 15, 3) := by decide +kernel
theorem dX8_takeDay_55 : decode cX8_takeDay 55 = .ok (.aload_n 0, 1) := by decide +kernel
theorem dX8_takeDay_56 : decode cX8_takeDay 56 = .ok (.aload_n 0, 1) := by decide +kernel
theorem dX8_takeDay_57 : decode cX8_takeDay 57 = .ok (.getfield 59, 3) := by decide +kernel
theorem dX8_takeDay_60 : decode cX8_takeDay 60 = .ok (.iload_n 1, 1) := by decide +kernel
theorem dX8_takeDay_61 : decode cX8_takeDay 61 = .ok (.iconst 0, 1) := by decide +kernel
theorem dX8_takeDay_62 : decode cX8_takeDay 62 = .ok (.bipush 9, 2) := by decide +kernel
theorem dX8_takeDay_64 : decode cX8_takeDay 64 = .ok (.invokevirtual 135, 3) := by decide +kernel
theorem dX8_takeDay_67 : decode cX8_takeDay 67 = .ok (.ireturn, 1) := by decide +kernel
set_option maxRecDepth 20000 in
theorem ggX8_takeClause_X8_here : GoodIn wsX8_takeClause wsX8_here := goodIn_r _ [9, 2, 10, 11, 47, 48, 49, 50, 51, 52, 53, 54, 55, 56, 57, 58, 59, 60, 61, 62, 63, 64, 65, 66, 67, 68, 69, 70, 71, 72, 73, 74, 75, 76, 77, 78, 79, 80, 81, 82, 83, 84] (by decide +kernel) (by decide +kernel)
set_option maxRecDepth 20000 in
theorem gX8_takeClause_X8_here : GoodIn wsX8_takeClause (wsV RX8 111 RX8 yX8_here wsX8_here) := goodIn_app (goodIn_of _ (by decide +kernel)) ggX8_takeClause_X8_here
set_option maxRecDepth 20000 in
theorem ggX8_takeClause_X8_fails : GoodIn wsX8_takeClause wsX8_fails := goodIn_r _ [15, 16, 47, 48, 49, 50, 51, 52, 53, 54, 55, 56, 57, 58, 59, 60, 61, 62, 63, 64, 65, 66, 67, 68, 69, 70, 71, 72, 73, 74, 75, 76, 77, 78, 79, 80, 81, 82, 83, 84] (by decide +kernel) (by decide +kernel)
set_option maxRecDepth 20000 in
theorem gX8_takeClause_X8_fails : GoodIn wsX8_takeClause (wsV RX8 119 RX8 yX8_fails wsX8_fails) := goodIn_app (goodIn_of _ (by decide +kernel)) ggX8_takeClause_X8_fails
set_option maxRecDepth 20000 in
theorem ggX8_takeClause_X8_into : GoodIn wsX8_takeClause wsX8_into := goodIn_r _ [20, 21, 22, 23, 24, 8, 25, 26, 27, 2, 28, 10, 11, 5, 6, 7, 9, 29, 30, 31, 12, 13, 14, 15, 16, 47, 48, 49, 50, 51, 52, 53, 54, 55, 56, 57, 58, 59, 60, 61, 62, 63, 64, 65, 66, 67, 68, 69, 70, 71, 72, 73, 74, 75, 76, 77, 78, 79, 80, 81, 82, 83, 84] (by decide +kernel) (by decide +kernel)
set_option maxRecDepth 20000 in
theorem gX8_takeClause_X8_into : GoodIn wsX8_takeClause (wsV RX8 135 RX8 yX8_into wsX8_into) := goodIn_app (goodIn_of _ (by decide +kernel)) ggX8_takeClause_X8_into
set_option maxRecDepth 20000 in
theorem ggX8_takeClause_X8_takePerson : GoodIn wsX8_takeClause wsX8_takePerson := goodIn_r _ [35, 3, 36, 37, 38, 39, 17, 18, 19, 8, 20, 21, 22, 23, 24, 25, 26, 27, 2, 28, 10, 11, 5, 6, 7, 9, 29, 30, 31, 12, 13, 14, 15, 16, 47, 48, 49, 50, 51, 52, 53, 54, 55, 56, 57, 58, 59, 60, 61, 62, 63, 64, 65, 66, 67, 68, 69, 70, 71, 72, 73, 74, 75, 76, 77, 78, 79, 80, 81, 82, 83, 84] (by decide +kernel) (by decide +kernel)
set_option maxRecDepth 20000 in
theorem gX8_takeClause_X8_takePerson : GoodIn wsX8_takeClause (wsV RX8 142 RX8 yX8_takePerson wsX8_takePerson) := goodIn_app (goodIn_of _ (by decide +kernel)) ggX8_takeClause_X8_takePerson
set_option maxRecDepth 20000 in
theorem ggX8_takeClause_X8_takeDay : GoodIn wsX8_takeClause wsX8_takeDay := goodIn_r _ [43, 4, 44, 45, 46, 17, 18, 19, 8, 20, 21, 22, 23, 24, 25, 26, 27, 2, 28, 10, 11, 5, 6, 7, 9, 29, 30, 31, 12, 13, 14, 15, 16, 47, 48, 49, 50, 51, 52, 53, 54, 55, 56, 57, 58, 59, 60, 61, 62, 63, 64, 65, 66, 67, 68, 69, 70, 71, 72, 73, 74, 75, 76, 77, 78, 79, 80, 81, 82, 83, 84] (by decide +kernel) (by decide +kernel)
set_option maxRecDepth 20000 in
theorem gX8_takeClause_X8_takeDay : GoodIn wsX8_takeClause (wsV RX8 145 RX8 yX8_takeDay wsX8_takeDay) := goodIn_app (goodIn_of _ (by decide +kernel)) ggX8_takeClause_X8_takeDay
theorem dX8_takeClause_0 : decode cX8_takeClause 0 = .ok (.aload_n 0, 1) := by decide +kernel
theorem dX8_takeClause_1 : decode cX8_takeClause 1 = .ok (.invokevirtual 111, 3) := by decide +kernel
theorem dX8_takeClause_4 : decode cX8_takeClause 4 = .ok (.istore_n 1, 1) := by decide +kernel
theorem dX8_takeClause_5 : decode cX8_takeClause 5 = .ok (.iload_n 1, 1) := by decide +kernel
theorem dX8_takeClause_6 : decode cX8_takeClause 6 = .ok (.bipush 107, 2) := by decide +kernel
theorem dX8_takeClause_8 : decode cX8_takeClause 8 = .ok (.if_icmp .ne 7, 3) := by decide +kernel
theorem dX8_takeClause_11 : decode cX8_takeClause 11 = .ok (.iconst 0, 1) := by decide +kernel
theorem dX8_takeClause_12 : decode cX8_takeClause 12 = .ok (.goto 24, 3) := by decide +kernel
theorem dX8_takeClause_15 : decode cX8_takeClause 15 = .ok (.iload_n 1, 1) := by decide +kernel
theorem dX8_takeClause_16 : decode cX8_takeClause 16 = .ok (.bipush 112, 2) := by decide +kernel
theorem dX8_takeClause_18 : decode cX8_takeClause 18 = .ok (.if_icmp .ne 7, 3) := by decide +kernel
theorem dX8_takeClause_21 : decode cX8_takeClause 21 = .ok (.iconst 1, 1) := by decide +kernel
theorem dX8_takeClause_22 : decode cX8_takeClause 22 = .ok (.goto 14, 3) := by decide +kernel
theorem dX8_takeClause_25 : decode cX8_takeClause 25 = .ok (.iload_n 1, 1) := by decide +kernel
theorem dX8_takeClause_26 : decode cX8_takeClause 26 = .ok (.bipush 100, 2) := by decide +kernel
theorem dX8_takeClause_28 : decode cX8_takeClause 28 = .ok (.if_icmp .ne 7, 3) := by decide +kernel
theorem dX8_takeClause_31 : decode cX8_takeClause 31 = .ok (.iconst 2, 1) := by decide +kernel
theorem dX8_takeClause_32 : decode cX8_takeClause 32 = .ok (.goto 4, 3) := by decide +kernel
theorem dX8_takeClause_35 : decode cX8_takeClause 35 = .ok (.iconst (-1), 1) := by decide +kernel
theorem dX8_takeClause_36 : decode cX8_takeClause 36 = .ok (.istore_n 2, 1) := by decide +kernel
theorem dX8_takeClause_37 : decode cX8_takeClause 37 = .ok (.iload_n 2, 1) := by decide +kernel
theorem dX8_takeClause_38 : decode cX8_takeClause 38 = .ok (.ifCond .lt 16, 3) := by decide +kernel
theorem dX8_takeClause_41 : decode cX8_takeClause 41 = .ok (.iload_n 2, 1) := by decide +kernel
theorem dX8_takeClause_42 : decode cX8_takeClause 42 = .ok (.ifCond .le 22, 3) := by decide +kernel
theorem dX8_takeClause_45 : decode cX8_takeClause 45 = .ok (.aload_n 0, 1) := by decide +kernel
theorem dX8_takeClause_46 : decode cX8_takeClause 46 = .ok (.getfield 38, 3) := by decide +kernel
theorem dX8_takeClause_49 : decode cX8_takeClause 49 = .ok (.iconst 0, 1) := by decide +kernel
theorem dX8_takeClause_50 : decode cX8_takeClause 50 = .ok (.iaload, 1) := by decide +kernel
theorem dX8_takeClause_51 : decode cX8_takeClause 51 = .ok (.ifCond .ne 13, 3) := by decide +kernel
theorem dX8_takeClause_54 : decode cX8_takeClause 54 = .ok (.aload_n 0, 1) := by decide +kernel
theorem dX8_takeClause_55 : decode cX8_takeClause 55 = .ok (.iconst 1, 1) := by decide +kernel
theorem dX8_takeClause_56 : decode cX8_takeClause 56 = .ok (.aload_n 0, 1) := by decide +kernel
theorem dX8_takeClause_57 : decode cX8_takeClause 57 = .ok (.getfield 108, 3) := by decide +kernel
theorem dX8_takeClause_60 : decode cX8_takeClause 60 = .ok (.invokevirtual 119, 3) := by decide +kernel
theorem dX8_takeClause_63 : decode cX8_takeClause 63 = .ok (.ireturn, 1) := by decide +kernel
theorem dX8_takeClause_64 : decode cX8_takeClause 64 = .ok (.iload_n 2, 1) := by decide +kernel
theorem dX8_takeClause_65 : decode cX8_takeClause 65 = .ok (.ifCond .ne 20, 3) := by decide +kernel
theorem dX8_takeClause_68 : decode cX8_takeClause 68 = .ok (.aload_n 0, 1) := by decide +kernel
theorem dX8_takeClause_69 : decode cX8_takeClause 69 = .ok (.getfield 38, 3) := by decide +kernel
theorem dX8_takeClause_72 : decode cX8_takeClause 72 = .ok (.iconst 0, 1) := by decide +kernel
theorem dX8_takeClause_73 : decode cX8_takeClause 73 = .ok (.iaload, 1) := by decide +kernel
theorem dX8_takeClause_74 : decode cX8_takeClause 74 = .ok (.ifCond .le 7, 3) := by decide +kernel
theorem dX8_takeClause_77 : decode cX8_takeClause 77 = .ok (.iconst 1, 1) := by decide +kernel
theorem dX8_takeClause_78 : decode cX8_takeClause 78 = .ok (.goto 43, 3) := by decide +kernel
theorem dX8_takeClause_81 : decode cX8_takeClause 81 = .ok (.iconst 0, 1) := by decide +kernel
theorem dX8_takeClause_82 : decode cX8_takeClause 82 = .ok (.goto 39, 3) := by decide +kernel
theorem dX8_takeClause_85 : decode cX8_takeClause 85 = .ok (.iload_n 2, 1) := by decide +kernel
theorem dX8_takeClause_86 : decode cX8_takeClause 86 = .ok (.iconst 1, 1) := by decide +kernel
theorem dX8_takeClause_87 : decode cX8_takeClause 87 = .ok (.if_icmp .ne 20, 3) := by decide +kernel
theorem dX8_takeClause_90 : decode cX8_takeClause 90 = .ok (.aload_n 0, 1) := by decide +kernel
theorem dX8_takeClause_91 : decode cX8_takeClause 91 = .ok (.getfield 132, 3) := by decide +kernel
theorem dX8_takeClause_94 : decode cX8_takeClause 94 = .ok (.bipush 8, 2) := by decide +kernel
theorem dX8_takeClause_96 : decode cX8_takeClause 96 = .ok (.if_icmp .ne 7, 3) := by decide +kernel
theorem dX8_takeClause_99 : decode cX8_takeClause 99 = .ok (.iconst 1, 1) := by decide +kernel
theorem dX8_takeClause_100 : decode cX8_takeClause 100 = .ok (.goto 21, 3) := by decide +kernel
theorem dX8_takeClause_103 : decode cX8_takeClause 103 = .ok (.iconst 0, 1) := by decide +kernel
theorem dX8_takeClause_104 : decode cX8_takeClause 104 = .ok (.goto 17, 3) := by decide +kernel
theorem dX8_takeClause_107 : decode cX8_takeClause 107 = .ok (.aload_n 0, 1) := by decide +kernel
theorem dX8_takeClause_108 : decode cX8_takeClause 108 = .ok (.getfield 139, 3) := by decide +kernel
theorem dX8_takeClause_111 : decode cX8_takeClause 111 = .ok (.bipush 10, 2) := by decide +kernel
theorem dX8_takeClause_113 : decode cX8_takeClause 113 = .ok (.if_icmp .ne 7, 3) := by decide +kernel
theorem dX8_takeClause_116 : decode cX8_takeClause 116 = .ok (.iconst 1, 1) := by decide +kernel
theorem dX8_takeClause_117 : decode cX8_takeClause 117 = .ok (.goto 4, 3) := by decide +kernel
theorem dX8_takeClause_120 : decode cX8_takeClause 120 = .ok (.iconst 0, 1) := by decide +kernel
theorem dX8_takeClause_121 : decode cX8_takeClause 121 = .ok (.istore_n 3, 1) := by decide +kernel
theorem dX8_takeClause_122 : decode cX8_takeClause 122 = .ok (.iload_n 3, 1) := by decide +kernel
theorem dX8_takeClause_123 : decode cX8_takeClause 123 = .ok (.ifCond .eq 13, 3) := by decide +kernel
theorem dX8_takeClause_126 : decode cX8_takeClause 126 = .ok (.aload_n 0, 1) := by decide +kernel
theorem dX8_takeClause_127 : decode cX8_takeClause 127 = .ok (.iconst 3, 1) := by decide +kernel
theorem dX8_takeClause_128 : decode cX8_takeClause 128 = .ok (.aload_n 0, 1) := by decide +kernel
theorem dX8_takeClause_129 : decode cX8_takeClause 129 = .ok (.getfield 108, 3) := by decide +kernel
theorem dX8_takeClause_132 : decode cX8_takeClause 132 = .ok (.invokevirtual 119, 3) := by decide +kernel
theorem dX8_takeClause_135 : decode cX8_takeClause 135 = .ok (.ireturn, 1) := by decide +kernel
theorem dX8_takeClause_136 : decode cX8_takeClause 136 = .ok (.aload_n 0, 1) := by decide +kernel
theorem dX8_takeClause_137 : decode cX8_takeClause 137 = .ok (.dup, 1) := by decide +kernel
theorem dX8_takeClause_138 : decode cX8_takeClause 138 = .ok (.getfield 108, 3) := by decide +kernel
theorem dX8_takeClause_141 : decode cX8_takeClause 141 = .ok (.iconst 1, 1) := by decide +kernel
theorem dX8_takeClause_142 : decode cX8_takeClause 142 = .ok (.iadd, 1) := by decide +kernel
theorem dX8_takeClause_143 : decode cX8_takeClause 143 = .ok (.putfield 108, 3) := by decide +kernel
theorem dX8_takeClause_146 : decode cX8_takeClause 146 = .ok (.iload_n 2, 1) := by decide +kernel
theorem dX8_takeClause_147 : decode cX8_takeClause 147 = .ok (.ifCond .ne 19, 3) := by decide +kernel
theorem dX8_takeClause_150 : decode cX8_takeClause 150 = .ok (.aload_n 0, 1) := by decide +kernel
theorem dX8_takeClause_151 : decode cX8_takeClause 151 = .ok (.aload_n 0, 1) := by decide +kernel
theorem dX8_takeClause_152 : decode cX8_takeClause 152 = .ok (.getfield 38, 3) := by decide +kernel
theorem dX8_takeClause_155 : decode cX8_takeClause 155 = .ok (.iconst 0, 1) := by decide +kernel
theorem dX8_takeClause_156 : decode cX8_takeClause 156 = .ok (.iconst 1, 1) := by decide +kernel
theorem dX8_takeClause_157 : decode cX8_takeClause 157 = .ok (.sipush 999, 3) := by decide +kernel
theorem dX8_takeClause_160 : decode cX8_takeClause 160 = .ok (.invokevirtual 135, 3) := by decide +kernel
theorem dX8_takeClause_163 : decode cX8_takeClause 163 = .ok (.goto 19, 3) := by decide +kernel
theorem dX8_takeClause_166 : decode cX8_takeClause 166 = .ok (.iload_n 2, 1) := by decide +kernel
theorem dX8_takeClause_167 : decode cX8_takeClause 167 = .ok (.iconst 1, 1) := by decide +kernel
theorem dX8_takeClause_168 : decode cX8_takeClause 168 = .ok (.if_icmp .ne 10, 3) := by decide +kernel
theorem dX8_takeClause_171 : decode cX8_takeClause 171 = .ok (.aload_n 0, 1) := by decide +kernel
theorem dX8_takeClause_172 : decode cX8_takeClause 172 = .ok (.invokevirtual 142, 3) := by decide +kernel
theorem dX8_takeClause_175 : decode cX8_takeClause 175 = .ok (.goto 7, 3) := by decide +kernel
theorem dX8_takeClause_178 : decode cX8_takeClause 178 = .ok (.aload_n 0, 1) := by decide +kernel
theorem dX8_takeClause_179 : decode cX8_takeClause 179 = .ok (.invokevirtual 145, 3) := by decide +kernel
theorem dX8_takeClause_182 : decode cX8_takeClause 182 = .ok (.istore 4, 2) := by decide +kernel
theorem dX8_takeClause_184 : decode cX8_takeClause 184 = .ok (.iload 4, 2) := by decide +kernel
theorem dX8_takeClause_186 : decode cX8_takeClause 186 = .ok (.ifCond .ne 22, 3) := by decide +kernel
theorem dX8_takeClause_189 : decode cX8_takeClause 189 = .ok (.aload_n 0, 1) := by decide +kernel
theorem dX8_takeClause_190 : decode cX8_takeClause 190 = .ok (.invokevirtual 111, 3) := by decide +kernel
theorem dX8_takeClause_193 : decode cX8_takeClause 193 = .ok (.bipush 59, 2) := by decide +kernel
theorem dX8_takeClause_195 : decode cX8_takeClause 195 = .ok (.if_icmp .eq 13, 3) := by decide +kernel
theorem dX8_takeClause_198 : decode cX8_takeClause 198 = .ok (.aload_n 0, 1) := by decide +kernel
theorem dX8_takeClause_199 : decode cX8_takeClause 199 = .ok (.iconst 1, 1) := by decide +kernel
theorem dX8_takeClause_200 : decode cX8_takeClause 200 = .ok (.aload_n 0, 1) := by decide +kernel
theorem dX8_takeClause_201 : decode cX8_takeClause 201 = .ok (.getfield 108, 3) := by decide +kernel
theorem dX8_takeClause_204 : decode cX8_takeClause 204 = .ok (.invokevirtual 119, 3) := by decide +kernel
theorem dX8_takeClause_207 : decode cX8_takeClause 207 = .ok (.ireturn, 1) := by decide +kernel
theorem dX8_takeClause_208 : decode cX8_takeClause 208 = .ok (.aload_n 0, 1) := by decide +kernel
theorem dX8_takeClause_209 : decode cX8_takeClause 209 = .ok (.dup, 1) := by decide +kernel
theorem dX8_takeClause_210 : decode cX8_takeClause 210 = .ok (.getfield 108, 3) := by decide +kernel
theorem dX8_takeClause_213 : decode cX8_takeClause 213 = .ok (.iconst 1, 1) := by decide +kernel
theorem dX8_takeClause_214 : decode cX8_takeClause 214 = .ok (.iadd, 1) := by decide +kernel
theorem dX8_takeClause_215 : decode cX8_takeClause 215 = .ok (.putfield 108, 3) := by decide +kernel
theorem dX8_takeClause_218 : decode cX8_takeClause 218 = .ok (.iload 4, 2) := by decide +kernel
theorem dX8_takeClause_220 : decode cX8_takeClause 220 = .ok (.ireturn, 1) := by decide +kernel
theorem dX8_takeRead_0 : decode cX8_takeRead 0 = .ok (.aload_n 0, 1) := by decide +kernel
theorem dX8_takeRead_1 : decode cX8_takeRead 1 = .ok (.aload_n 0, 1) := by decide +kernel
theorem dX8_takeRead_2 : decode cX8_takeRead 2 = .ok (.getfield 38, 3) := by decide +kernel
theorem dX8_takeRead_5 : decode cX8_takeRead 5 = .ok (.iconst 0, 1) := by decide +kernel
theorem dX8_takeRead_6 : decode cX8_takeRead 6 = .ok (.iaload, 1) := by decide +kernel
theorem dX8_takeRead_7 : decode cX8_takeRead 7 = .ok (.putfield 90, 3) := by decide +kernel
theorem dX8_takeRead_10 : decode cX8_takeRead 10 = .ok (.aload_n 0, 1) := by decide +kernel
theorem dX8_takeRead_11 : decode cX8_takeRead 11 = .ok (.aload_n 0, 1) := by decide +kernel
theorem dX8_takeRead_12 : decode cX8_takeRead 12 = .ok (.getfield 139, 3) := by decide +kernel
theorem dX8_takeRead_15 : decode cX8_takeRead 15 = .ok (.putfield 148, 3) := by decide +kernel
theorem dX8_takeRead_18 : decode cX8_takeRead 18 = .ok (.iconst 0, 1) := by decide +kernel
theorem dX8_takeRead_19 : decode cX8_takeRead 19 = .ok (.istore_n 1, 1) := by decide +kernel
theorem dX8_takeRead_20 : decode cX8_takeRead 20 = .ok (.iload_n 1, 1) := by decide +kernel
theorem dX8_takeRead_21 : decode cX8_takeRead 21 = .ok (.bipush 13, 2) := by decide +kernel
theorem dX8_takeRead_23 : decode cX8_takeRead 23 = .ok (.if_icmp .ge 16, 3) := by decide +kernel
theorem dX8_takeRead_26 : decode cX8_takeRead 26 = .ok (.aload_n 0, 1) := by decide +kernel
theorem dX8_takeRead_27 : decode cX8_takeRead 27 = .ok (.getfield 28, 3) := by decide +kernel
theorem dX8_takeRead_30 : decode cX8_takeRead 30 = .ok (.iload_n 1, 1) := by decide +kernel
theorem dX8_takeRead_31 : decode cX8_takeRead 31 = .ok (.iconst 0, 1) := by decide +kernel
theorem dX8_takeRead_32 : decode cX8_takeRead 32 = .ok (.iastore, 1) := by decide +kernel
theorem dX8_takeRead_33 : decode cX8_takeRead 33 = .ok (.iinc 1 1, 3) := by decide +kernel
theorem dX8_takeRead_36 : decode cX8_takeRead 36 = .ok (.goto (-16), 3) := by decide +kernel
theorem dX8_takeRead_39 : decode cX8_takeRead 39 = .ok (.iconst 0, 1) := by decide +kernel
theorem dX8_takeRead_40 : decode cX8_takeRead 40 = .ok (.istore_n 1, 1) := by decide +kernel
theorem dX8_takeRead_41 : decode cX8_takeRead 41 = .ok (.iload_n 1, 1) := by decide +kernel
theorem dX8_takeRead_42 : decode cX8_takeRead 42 = .ok (.bipush 8, 2) := by decide +kernel
theorem dX8_takeRead_44 : decode cX8_takeRead 44 = .ok (.if_icmp .ge 104, 3) := by decide +kernel
theorem dX8_takeRead_47 : decode cX8_takeRead 47 = .ok (.iload_n 1, 1) := by decide +kernel
theorem dX8_takeRead_48 : decode cX8_takeRead 48 = .ok (.aload_n 0, 1) := by decide +kernel
theorem dX8_takeRead_49 : decode cX8_takeRead 49 = .ok (.getfield 132, 3) := by decide +kernel
theorem dX8_takeRead_52 : decode cX8_takeRead 52 = .ok (.if_icmp .ge 7, 3) := by decide +kernel
theorem dX8_takeRead_55 : decode cX8_takeRead 55 = .ok (.iconst 1, 1) := by decide +kernel
theorem dX8_takeRead_56 : decode cX8_takeRead 56 = .ok (.goto 4, 3) := by decide +kernel
theorem dX8_takeRead_59 : decode cX8_takeRead 59 = .ok (.iconst 0, 1) := by decide +kernel
theorem dX8_takeRead_60 : decode cX8_takeRead 60 = .ok (.istore_n 2, 1) := by decide +kernel
theorem dX8_takeRead_61 : decode cX8_takeRead 61 = .ok (.aload_n 0, 1) := by decide +kernel
theorem dX8_takeRead_62 : decode cX8_takeRead 62 = .ok (.getfield 28, 3) := by decide +kernel
theorem dX8_takeRead_65 : decode cX8_takeRead 65 = .ok (.iload_n 1, 1) := by decide +kernel
theorem dX8_takeRead_66 : decode cX8_takeRead 66 = .ok (.iload_n 2, 1) := by decide +kernel
theorem dX8_takeRead_67 : decode cX8_takeRead 67 = .ok (.ifCond .eq 12, 3) := by decide +kernel
theorem dX8_takeRead_70 : decode cX8_takeRead 70 = .ok (.aload_n 0, 1) := by decide +kernel
theorem dX8_takeRead_71 : decode cX8_takeRead 71 = .ok (.getfield 41, 3) := by decide +kernel
theorem dX8_takeRead_74 : decode cX8_takeRead 74 = .ok (.iload_n 1, 1) := by decide +kernel
theorem dX8_takeRead_75 : decode cX8_takeRead 75 = .ok (.iaload, 1) := by decide +kernel
theorem dX8_takeRead_76 : decode cX8_takeRead 76 = .ok (.goto 4, 3) := by decide +kernel
theorem dX8_takeRead_79 : decode cX8_takeRead 79 = .ok (.iconst 0, 1) := by decide +kernel
theorem dX8_takeRead_80 : decode cX8_takeRead 80 = .ok (.iastore, 1) := by decide +kernel
theorem dX8_takeRead_81 : decode cX8_takeRead 81 = .ok (.aload_n 0, 1) := by decide +kernel
theorem dX8_takeRead_82 : decode cX8_takeRead 82 = .ok (.getfield 7, 3) := by decide +kernel
theorem dX8_takeRead_85 : decode cX8_takeRead 85 = .ok (.iload_n 1, 1) := by decide +kernel
theorem dX8_takeRead_86 : decode cX8_takeRead 86 = .ok (.iload_n 2, 1) := by decide +kernel
theorem dX8_takeRead_87 : decode cX8_takeRead 87 = .ok (.ifCond .eq 12, 3) := by decide +kernel
theorem dX8_takeRead_90 : decode cX8_takeRead 90 = .ok (.aload_n 0, 1) := by decide +kernel
theorem dX8_takeRead_91 : decode cX8_takeRead 91 = .ok (.getfield 44, 3) := by decide +kernel
theorem dX8_takeRead_94 : decode cX8_takeRead 94 = .ok (.iload_n 1, 1) := by decide +kernel
theorem dX8_takeRead_95 : decode cX8_takeRead 95 = .ok (.iaload, 1) := by decide +kernel
theorem dX8_takeRead_96 : decode cX8_takeRead 96 = .ok (.goto 4, 3) := by decide +kernel
theorem dX8_takeRead_99 : decode cX8_takeRead 99 = .ok (.iconst 0, 1) := by decide +kernel
theorem dX8_takeRead_100 : decode cX8_takeRead 100 = .ok (.iastore, 1) := by decide +kernel
theorem dX8_takeRead_101 : decode cX8_takeRead 101 = .ok (.aload_n 0, 1) := by decide +kernel
theorem dX8_takeRead_102 : decode cX8_takeRead 102 = .ok (.getfield 13, 3) := by decide +kernel
theorem dX8_takeRead_105 : decode cX8_takeRead 105 = .ok (.iload_n 1, 1) := by decide +kernel
theorem dX8_takeRead_106 : decode cX8_takeRead 106 = .ok (.iload_n 2, 1) := by decide +kernel
theorem dX8_takeRead_107 : decode cX8_takeRead 107 = .ok (.ifCond .eq 12, 3) := by decide +kernel
theorem dX8_takeRead_110 : decode cX8_takeRead 110 = .ok (.aload_n 0, 1) := by decide +kernel
theorem dX8_takeRead_111 : decode cX8_takeRead 111 = .ok (.getfield 47, 3) := by decide +kernel
theorem dX8_takeRead_114 : decode cX8_takeRead 114 = .ok (.iload_n 1, 1) := by decide +kernel
theorem dX8_takeRead_115 : decode cX8_takeRead 115 = .ok (.iaload, 1) := by decide +kernel
theorem dX8_takeRead_116 : decode cX8_takeRead 116 = .ok (.goto 4, 3) := by decide +kernel
theorem dX8_takeRead_119 : decode cX8_takeRead 119 = .ok (.iconst 0, 1) := by decide +kernel
theorem dX8_takeRead_120 : decode cX8_takeRead 120 = .ok (.iastore, 1) := by decide +kernel
theorem dX8_takeRead_121 : decode cX8_takeRead 121 = .ok (.aload_n 0, 1) := by decide +kernel
theorem dX8_takeRead_122 : decode cX8_takeRead 122 = .ok (.getfield 16, 3) := by decide +kernel
theorem dX8_takeRead_125 : decode cX8_takeRead 125 = .ok (.iload_n 1, 1) := by decide +kernel
theorem dX8_takeRead_126 : decode cX8_takeRead 126 = .ok (.iload_n 2, 1) := by decide +kernel
theorem dX8_takeRead_127 : decode cX8_takeRead 127 = .ok (.ifCond .eq 12, 3) := by decide +kernel
theorem dX8_takeRead_130 : decode cX8_takeRead 130 = .ok (.aload_n 0, 1) := by decide +kernel
theorem dX8_takeRead_131 : decode cX8_takeRead 131 = .ok (.getfield 50, 3) := by decide +kernel
theorem dX8_takeRead_134 : decode cX8_takeRead 134 = .ok (.iload_n 1, 1) := by decide +kernel
theorem dX8_takeRead_135 : decode cX8_takeRead 135 = .ok (.iaload, 1) := by decide +kernel
theorem dX8_takeRead_136 : decode cX8_takeRead 136 = .ok (.goto 5, 3) := by decide +kernel
theorem dX8_takeRead_139 : decode cX8_takeRead 139 = .ok (.bipush 9, 2) := by decide +kernel
theorem dX8_takeRead_141 : decode cX8_takeRead 141 = .ok (.iastore, 1) := by decide +kernel
theorem dX8_takeRead_142 : decode cX8_takeRead 142 = .ok (.iinc 1 1, 3) := by decide +kernel
theorem dX8_takeRead_145 : decode cX8_takeRead 145 = .ok (.goto (-104), 3) := by decide +kernel
theorem dX8_takeRead_148 : decode cX8_takeRead 148 = .ok (.aload_n 0, 1) := by decide +kernel
theorem dX8_takeRead_149 : decode cX8_takeRead 149 = .ok (.getfield 28, 3) := by decide +kernel
theorem dX8_takeRead_152 : decode cX8_takeRead 152 = .ok (.bipush 8, 2) := by decide +kernel
theorem dX8_takeRead_154 : decode cX8_takeRead 154 = .ok (.aload_n 0, 1) := by decide +kernel
theorem dX8_takeRead_155 : decode cX8_takeRead 155 = .ok (.getfield 132, 3) := by decide +kernel
theorem dX8_takeRead_158 : decode cX8_takeRead 158 = .ok (.iastore, 1) := by decide +kernel
theorem dX8_takeRead_159 : decode cX8_takeRead 159 = .ok (.aload_n 0, 1) := by decide +kernel
theorem dX8_takeRead_160 : decode cX8_takeRead 160 = .ok (.getfield 28, 3) := by decide +kernel
theorem dX8_takeRead_163 : decode cX8_takeRead 163 = .ok (.bipush 9, 2) := by decide +kernel
theorem dX8_takeRead_165 : decode cX8_takeRead 165 = .ok (.iconst 1, 1) := by decide +kernel
theorem dX8_takeRead_166 : decode cX8_takeRead 166 = .ok (.aload_n 0, 1) := by decide +kernel
theorem dX8_takeRead_167 : decode cX8_takeRead 167 = .ok (.getfield 132, 3) := by decide +kernel
theorem dX8_takeRead_170 : decode cX8_takeRead 170 = .ok (.ishl, 1) := by decide +kernel
theorem dX8_takeRead_171 : decode cX8_takeRead 171 = .ok (.iconst 1, 1) := by decide +kernel
theorem dX8_takeRead_172 : decode cX8_takeRead 172 = .ok (.isub, 1) := by decide +kernel
theorem dX8_takeRead_173 : decode cX8_takeRead 173 = .ok (.iastore, 1) := by decide +kernel
theorem dX8_takeRead_174 : decode cX8_takeRead 174 = .ok (.iconst 0, 1) := by decide +kernel
theorem dX8_takeRead_175 : decode cX8_takeRead 175 = .ok (.istore_n 1, 1) := by decide +kernel
theorem dX8_takeRead_176 : decode cX8_takeRead 176 = .ok (.iload_n 1, 1) := by decide +kernel
theorem dX8_takeRead_177 : decode cX8_takeRead 177 = .ok (.aload_n 0, 1) := by decide +kernel
theorem dX8_takeRead_178 : decode cX8_takeRead 178 = .ok (.getfield 148, 3) := by decide +kernel
theorem dX8_takeRead_181 : decode cX8_takeRead 181 = .ok (.if_icmp .ge 45, 3) := by decide +kernel
theorem dX8_takeRead_184 : decode cX8_takeRead 184 = .ok (.aload_n 0, 1) := by decide +kernel
theorem dX8_takeRead_185 : decode cX8_takeRead 185 = .ok (.getfield 19, 3) := by decide +kernel
theorem dX8_takeRead_188 : decode cX8_takeRead 188 = .ok (.iload_n 1, 1) := by decide +kernel
theorem dX8_takeRead_189 : decode cX8_takeRead 189 = .ok (.aload_n 0, 1) := by decide +kernel
theorem dX8_takeRead_190 : decode cX8_takeRead 190 = .ok (.getfield 53, 3) := by decide +kernel
theorem dX8_takeRead_193 : decode cX8_takeRead 193 = .ok (.iload_n 1, 1) := by decide +kernel
theorem dX8_takeRead_194 : decode cX8_takeRead 194 = .ok (.iaload, 1) := by decide +kernel
theorem dX8_takeRead_195 : decode cX8_takeRead 195 = .ok (.iastore, 1) := by decide +kernel
theorem dX8_takeRead_196 : decode cX8_takeRead 196 = .ok (.aload_n 0, 1) := by decide +kernel
theorem dX8_takeRead_197 : decode cX8_takeRead 197 = .ok (.getfield 22, 3) := by decide +kernel
theorem dX8_takeRead_200 : decode cX8_takeRead 200 = .ok (.iload_n 1, 1) := by decide +kernel
theorem dX8_takeRead_201 : decode cX8_takeRead 201 = .ok (.aload_n 0, 1) := by decide +kernel
theorem dX8_takeRead_202 : decode cX8_takeRead 202 = .ok (.getfield 56, 3) := by decide +kernel
theorem dX8_takeRead_205 : decode cX8_takeRead 205 = .ok (.iload_n 1, 1) := by decide +kernel
theorem dX8_takeRead_206 : decode cX8_takeRead 206 = .ok (.iaload, 1) := by decide +kernel
theorem dX8_takeRead_207 : decode cX8_takeRead 207 = .ok (.iastore, 1) := by decide +kernel
theorem dX8_takeRead_208 : decode cX8_takeRead 208 = .ok (.aload_n 0, 1) := by decide +kernel
theorem dX8_takeRead_209 : decode cX8_takeRead 209 = .ok (.getfield 25, 3) := by decide +kernel
theorem dX8_takeRead_212 : decode cX8_takeRead 212 = .ok (.iload_n 1, 1) := by decide +kernel
theorem dX8_takeRead_213 : decode cX8_takeRead 213 = .ok (.aload_n 0, 1) := by decide +kernel
theorem dX8_takeRead_214 : decode cX8_takeRead 214 = .ok (.getfield 59, 3) := by decide +kernel
theorem dX8_takeRead_217 : decode cX8_takeRead 217 = .ok (.iload_n 1, 1) := by decide +kernel
theorem dX8_takeRead_218 : decode cX8_takeRead 218 = .ok (.iaload, 1) := by decide +kernel
theorem dX8_takeRead_219 : decode cX8_takeRead 219 = .ok (.iastore, 1) := by decide +kernel
theorem dX8_takeRead_220 : decode cX8_takeRead 220 = .ok (.iinc 1 1, 3) := by decide +kernel
theorem dX8_takeRead_223 : decode cX8_takeRead 223 = .ok (.goto (-47), 3) := by decide +kernel
theorem dX8_takeRead_226 : decode cX8_takeRead 226 = .ok (.return_, 1) := by decide +kernel
set_option maxRecDepth 20000 in
theorem ggX8_court_X8_here : GoodIn wsX8_court wsX8_here := goodIn_r _ [16, 2, 6, 17, 68, 69, 70, 71, 72, 73, 74, 75, 76, 77, 78, 79, 80, 81, 82, 83, 84, 85, 86, 87, 88, 89, 90, 91, 92, 93, 94, 95, 96, 97, 98, 99, 100, 101, 102, 103, 104, 105] (by decide +kernel) (by decide +kernel)
set_option maxRecDepth 20000 in
theorem gX8_court_X8_here : GoodIn wsX8_court (wsV RX8 111 RX8 yX8_here wsX8_here) := goodIn_app (goodIn_of _ (by decide +kernel)) ggX8_court_X8_here
set_option maxRecDepth 20000 in
theorem ggX8_court_X8_takeClause : GoodIn wsX8_court wsX8_takeClause := goodIn_r _ [21, 3, 2, 4, 5, 12, 13, 14, 15, 16, 6, 17, 22, 23, 24, 25, 1, 26, 27, 28, 29, 30, 31, 32, 33, 34, 35, 36, 37, 38, 39, 40, 41, 42, 43, 44, 45, 46, 47, 48, 49, 50, 51, 52, 53, 54, 55, 68, 69, 70, 71, 72, 73, 74, 75, 76, 77, 78, 79, 80, 81, 82, 83, 84, 85, 86, 87, 88, 89, 90, 91, 92, 93, 94, 95, 96, 97, 98, 99, 100, 101, 102, 103, 104, 105] (by decide +kernel) (by decide +kernel)
set_option maxRecDepth 20000 in
theorem gX8_court_X8_takeClause : GoodIn wsX8_court (wsV RX8 151 RX8 yX8_takeClause wsX8_takeClause) := goodIn_app (goodIn_of _ (by decide +kernel)) ggX8_court_X8_takeClause
set_option maxRecDepth 20000 in
theorem ggX8_court_X8_takeRead : GoodIn wsX8_court wsX8_takeRead := goodIn_r _ [59, 3, 60, 5, 61, 11, 4, 45, 62, 46, 63, 47, 64, 48, 65, 53, 66, 54, 67, 55, 68, 69, 70, 71, 72, 73, 74, 75, 76, 77, 78, 79, 80, 81, 82, 83, 84, 85, 86, 87, 88, 89, 90, 91, 92, 93, 94, 95, 96, 97, 98, 99, 100, 101, 102, 103, 104, 105] (by decide +kernel) (by decide +kernel)
set_option maxRecDepth 20000 in
theorem gX8_court_X8_takeRead : GoodIn wsX8_court (wsV RX8 154 RX8 yX8_takeRead wsX8_takeRead) := goodIn_app (goodIn_of _ (by decide +kernel)) ggX8_court_X8_takeRead
theorem dX8_court_0 : decode cX8_court 0 = .ok (.aload_n 0, 1) := by decide +kernel
theorem dX8_court_1 : decode cX8_court 1 = .ok (.iconst (-1), 1) := by decide +kernel
theorem dX8_court_2 : decode cX8_court 2 = .ok (.putfield 34, 3) := by decide +kernel
theorem dX8_court_5 : decode cX8_court 5 = .ok (.aload_n 0, 1) := by decide +kernel
theorem dX8_court_6 : decode cX8_court 6 = .ok (.iconst 0, 1) := by decide +kernel
theorem dX8_court_7 : decode cX8_court 7 = .ok (.putfield 108, 3) := by decide +kernel
theorem dX8_court_10 : decode cX8_court 10 = .ok (.aload_n 0, 1) := by decide +kernel
theorem dX8_court_11 : decode cX8_court 11 = .ok (.getfield 38, 3) := by decide +kernel
theorem dX8_court_14 : decode cX8_court 14 = .ok (.iconst 0, 1) := by decide +kernel
theorem dX8_court_15 : decode cX8_court 15 = .ok (.iconst 0, 1) := by decide +kernel
theorem dX8_court_16 : decode cX8_court 16 = .ok (.iastore, 1) := by decide +kernel
theorem dX8_court_17 : decode cX8_court 17 = .ok (.aload_n 0, 1) := by decide +kernel
theorem dX8_court_18 : decode cX8_court 18 = .ok (.iconst 0, 1) := by decide +kernel
theorem dX8_court_19 : decode cX8_court 19 = .ok (.putfield 132, 3) := by decide +kernel
theorem dX8_court_22 : decode cX8_court 22 = .ok (.aload_n 0, 1) := by decide +kernel
theorem dX8_court_23 : decode cX8_court 23 = .ok (.iconst 0, 1) := by decide +kernel
theorem dX8_court_24 : decode cX8_court 24 = .ok (.putfield 139, 3) := by decide +kernel
theorem dX8_court_27 : decode cX8_court 27 = .ok (.iconst 0, 1) := by decide +kernel
theorem dX8_court_28 : decode cX8_court 28 = .ok (.istore_n 1, 1) := by decide +kernel
theorem dX8_court_29 : decode cX8_court 29 = .ok (.iload_n 1, 1) := by decide +kernel
theorem dX8_court_30 : decode cX8_court 30 = .ok (.ifCond .ne 18, 3) := by decide +kernel
theorem dX8_court_33 : decode cX8_court 33 = .ok (.aload_n 0, 1) := by decide +kernel
theorem dX8_court_34 : decode cX8_court 34 = .ok (.invokevirtual 111, 3) := by decide +kernel
theorem dX8_court_37 : decode cX8_court 37 = .ok (.ifCond .lt 11, 3) := by decide +kernel
theorem dX8_court_40 : decode cX8_court 40 = .ok (.aload_n 0, 1) := by decide +kernel
theorem dX8_court_41 : decode cX8_court 41 = .ok (.invokevirtual 151, 3) := by decide +kernel
theorem dX8_court_44 : decode cX8_court 44 = .ok (.istore_n 1, 1) := by decide +kernel
theorem dX8_court_45 : decode cX8_court 45 = .ok (.goto (-16), 3) := by decide +kernel
theorem dX8_court_48 : decode cX8_court 48 = .ok (.aload_n 0, 1) := by decide +kernel
theorem dX8_court_49 : decode cX8_court 49 = .ok (.iconst 0, 1) := by decide +kernel
theorem dX8_court_50 : decode cX8_court 50 = .ok (.putfield 104, 3) := by decide +kernel
theorem dX8_court_53 : decode cX8_court 53 = .ok (.iload_n 1, 1) := by decide +kernel
theorem dX8_court_54 : decode cX8_court 54 = .ok (.ifCond .le 8, 3) := by decide +kernel
theorem dX8_court_57 : decode cX8_court 57 = .ok (.bipush (-10), 2) := by decide +kernel
theorem dX8_court_59 : decode cX8_court 59 = .ok (.iload_n 1, 1) := by decide +kernel
theorem dX8_court_60 : decode cX8_court 60 = .ok (.isub, 1) := by decide +kernel
theorem dX8_court_61 : decode cX8_court 61 = .ok (.ireturn, 1) := by decide +kernel
theorem dX8_court_62 : decode cX8_court 62 = .ok (.aload_n 0, 1) := by decide +kernel
theorem dX8_court_63 : decode cX8_court 63 = .ok (.invokevirtual 154, 3) := by decide +kernel
theorem dX8_court_66 : decode cX8_court 66 = .ok (.aload_n 0, 1) := by decide +kernel
theorem dX8_court_67 : decode cX8_court 67 = .ok (.iconst 0, 1) := by decide +kernel
theorem dX8_court_68 : decode cX8_court 68 = .ok (.putfield 157, 3) := by decide +kernel
theorem dX8_court_71 : decode cX8_court 71 = .ok (.aload_n 0, 1) := by decide +kernel
theorem dX8_court_72 : decode cX8_court 72 = .ok (.iconst 0, 1) := by decide +kernel
theorem dX8_court_73 : decode cX8_court 73 = .ok (.putfield 160, 3) := by decide +kernel
theorem dX8_court_76 : decode cX8_court 76 = .ok (.aload_n 0, 1) := by decide +kernel
theorem dX8_court_77 : decode cX8_court 77 = .ok (.iconst 0, 1) := by decide +kernel
theorem dX8_court_78 : decode cX8_court 78 = .ok (.putfield 163, 3) := by decide +kernel
theorem dX8_court_81 : decode cX8_court 81 = .ok (.aload_n 0, 1) := by decide +kernel
theorem dX8_court_82 : decode cX8_court 82 = .ok (.getfield 87, 3) := by decide +kernel
theorem dX8_court_85 : decode cX8_court 85 = .ok (.iconst 0, 1) := by decide +kernel
theorem dX8_court_86 : decode cX8_court 86 = .ok (.iconst 0, 1) := by decide +kernel
theorem dX8_court_87 : decode cX8_court 87 = .ok (.bastore, 1) := by decide +kernel
theorem dX8_court_88 : decode cX8_court 88 = .ok (.aload_n 0, 1) := by decide +kernel
theorem dX8_court_89 : decode cX8_court 89 = .ok (.getfield 87, 3) := by decide +kernel
theorem dX8_court_92 : decode cX8_court 92 = .ok (.iconst 1, 1) := by decide +kernel
theorem dX8_court_93 : decode cX8_court 93 = .ok (.iconst 0, 1) := by decide +kernel
theorem dX8_court_94 : decode cX8_court 94 = .ok (.bastore, 1) := by decide +kernel
theorem dX8_court_95 : decode cX8_court 95 = .ok (.aload_n 0, 1) := by decide +kernel
theorem dX8_court_96 : decode cX8_court 96 = .ok (.getfield 28, 3) := by decide +kernel
theorem dX8_court_99 : decode cX8_court 99 = .ok (.bipush 8, 2) := by decide +kernel
theorem dX8_court_101 : decode cX8_court 101 = .ok (.iaload, 1) := by decide +kernel
theorem dX8_court_102 : decode cX8_court 102 = .ok (.ireturn, 1) := by decide +kernel
theorem dX8_fault_0 : decode cX8_fault 0 = .ok (.aload_n 0, 1) := by decide +kernel
theorem dX8_fault_1 : decode cX8_fault 1 = .ok (.getfield 34, 3) := by decide +kernel
theorem dX8_fault_4 : decode cX8_fault 4 = .ok (.ireturn, 1) := by decide +kernel
set_option maxRecDepth 20000 in
theorem ggX8_goesBy_X8_has : GoodIn wsX8_goesBy wsX8_has := goodIn_r _ [7] (by decide +kernel) (by decide +kernel)
set_option maxRecDepth 20000 in
theorem gX8_goesBy_X8_has : GoodIn wsX8_goesBy (va_wsS RX8 93 yX8_has wsX8_has) := goodIn_app (goodIn_of _ (by decide +kernel)) ggX8_goesBy_X8_has
theorem dX8_goesBy_0 : decode cX8_goesBy 0 = .ok (.aload_n 0, 1) := by decide +kernel
theorem dX8_goesBy_1 : decode cX8_goesBy 1 = .ok (.getfield 7, 3) := by decide +kernel
theorem dX8_goesBy_4 : decode cX8_goesBy 4 = .ok (.iload_n 1, 1) := by decide +kernel
theorem dX8_goesBy_5 : decode cX8_goesBy 5 = .ok (.iaload, 1) := by decide +kernel
theorem dX8_goesBy_6 : decode cX8_goesBy 6 = .ok (.iload_n 2, 1) := by decide +kernel
theorem dX8_goesBy_7 : decode cX8_goesBy 7 = .ok (.invokestatic 93, 3) := by decide +kernel
theorem dX8_goesBy_10 : decode cX8_goesBy 10 = .ok (.ifCond .ne 31, 3) := by decide +kernel
theorem dX8_goesBy_13 : decode cX8_goesBy 13 = .ok (.aload_n 0, 1) := by decide +kernel
theorem dX8_goesBy_14 : decode cX8_goesBy 14 = .ok (.getfield 13, 3) := by decide +kernel
theorem dX8_goesBy_17 : decode cX8_goesBy 17 = .ok (.iload_n 1, 1) := by decide +kernel
theorem dX8_goesBy_18 : decode cX8_goesBy 18 = .ok (.iaload, 1) := by decide +kernel
theorem dX8_goesBy_19 : decode cX8_goesBy 19 = .ok (.iload_n 3, 1) := by decide +kernel
theorem dX8_goesBy_20 : decode cX8_goesBy 20 = .ok (.invokestatic 93, 3) := by decide +kernel
theorem dX8_goesBy_23 : decode cX8_goesBy 23 = .ok (.ifCond .ne 18, 3) := by decide +kernel
theorem dX8_goesBy_26 : decode cX8_goesBy 26 = .ok (.iload 4, 2) := by decide +kernel
theorem dX8_goesBy_28 : decode cX8_goesBy 28 = .ok (.aload_n 0, 1) := by decide +kernel
theorem dX8_goesBy_29 : decode cX8_goesBy 29 = .ok (.getfield 16, 3) := by decide +kernel
theorem dX8_goesBy_32 : decode cX8_goesBy 32 = .ok (.iload_n 1, 1) := by decide +kernel
theorem dX8_goesBy_33 : decode cX8_goesBy 33 = .ok (.iaload, 1) := by decide +kernel
theorem dX8_goesBy_34 : decode cX8_goesBy 34 = .ok (.if_icmp .gt 7, 3) := by decide +kernel
theorem dX8_goesBy_37 : decode cX8_goesBy 37 = .ok (.iconst 1, 1) := by decide +kernel
theorem dX8_goesBy_38 : decode cX8_goesBy 38 = .ok (.goto 4, 3) := by decide +kernel
theorem dX8_goesBy_41 : decode cX8_goesBy 41 = .ok (.iconst 0, 1) := by decide +kernel
theorem dX8_goesBy_42 : decode cX8_goesBy 42 = .ok (.ireturn, 1) := by decide +kernel
set_option maxRecDepth 20000 in
theorem ggX8_goesOn_X8_goesBy : GoodIn wsX8_goesOn wsX8_goesBy := goodIn_r _ [6, 7, 8, 9, 10, 11, 5, 12, 20, 21, 22, 23, 24, 25, 26, 27, 28, 29, 30, 31, 32, 33, 34, 35, 36, 37, 38, 39, 40, 41, 42, 43, 44, 45, 46, 47, 48, 49, 50, 51, 52, 53, 54, 55, 56, 57] (by decide +kernel) (by decide +kernel)
set_option maxRecDepth 20000 in
theorem gX8_goesOn_X8_goesBy : GoodIn wsX8_goesOn (wsV RX8 166 RX8 yX8_goesBy wsX8_goesBy) := goodIn_app (goodIn_of _ (by decide +kernel)) ggX8_goesOn_X8_goesBy
set_option maxRecDepth 20000 in
theorem ggX8_goesOn_X8_goesAt : GoodIn wsX8_goesOn wsX8_goesAt := goodIn_r _ [16, 17, 18, 19, 2, 3, 4, 5, 6, 7, 8, 9, 10, 11, 12, 20, 21, 22, 23, 24, 25, 26, 27, 28, 29, 30, 31, 32, 33, 34, 35, 36, 37, 38, 39, 40, 41, 42, 43, 44, 45, 46, 47, 48, 49, 50, 51, 52, 53, 54, 55, 56, 57] (by decide +kernel) (by decide +kernel)
set_option maxRecDepth 20000 in
theorem gX8_goesOn_X8_goesAt : GoodIn wsX8_goesOn (wsV RX8 170 RX8 yX8_goesAt wsX8_goesAt) := goodIn_app (goodIn_of _ (by decide +kernel)) ggX8_goesOn_X8_goesAt
theorem dX8_goesOn_0 : decode cX8_goesOn 0 = .ok (.aload_n 0, 1) := by decide +kernel
theorem dX8_goesOn_1 : decode cX8_goesOn 1 = .ok (.getfield 148, 3) := by decide +kernel
theorem dX8_goesOn_4 : decode cX8_goesOn 4 = .ok (.ifCond .ne 14, 3) := by decide +kernel
theorem dX8_goesOn_7 : decode cX8_goesOn 7 = .ok (.aload_n 0, 1) := by decide +kernel
theorem dX8_goesOn_8 : decode cX8_goesOn 8 = .ok (.iload_n 1, 1) := by decide +kernel
theorem dX8_goesOn_9 : decode cX8_goesOn 9 = .ok (.iconst 0, 1) := by decide +kernel
theorem dX8_goesOn_10 : decode cX8_goesOn 10 = .ok (.iconst 0, 1) := by decide +kernel
theorem dX8_goesOn_11 : decode cX8_goesOn 11 = .ok (.iconst 0, 1) := by decide +kernel
theorem dX8_goesOn_12 : decode cX8_goesOn 12 = .ok (.invokevirtual 166, 3) := by decide +kernel
theorem dX8_goesOn_15 : decode cX8_goesOn 15 = .ok (.goto 14, 3) := by decide +kernel
theorem dX8_goesOn_18 : decode cX8_goesOn 18 = .ok (.aload_n 0, 1) := by decide +kernel
theorem dX8_goesOn_19 : decode cX8_goesOn 19 = .ok (.iload_n 1, 1) := by decide +kernel
theorem dX8_goesOn_20 : decode cX8_goesOn 20 = .ok (.iload_n 2, 1) := by decide +kernel
theorem dX8_goesOn_21 : decode cX8_goesOn 21 = .ok (.aload_n 0, 1) := by decide +kernel
theorem dX8_goesOn_22 : decode cX8_goesOn 22 = .ok (.getfield 148, 3) := by decide +kernel
theorem dX8_goesOn_25 : decode cX8_goesOn 25 = .ok (.irem, 1) := by decide +kernel
theorem dX8_goesOn_26 : decode cX8_goesOn 26 = .ok (.invokevirtual 170, 3) := by decide +kernel
theorem dX8_goesOn_29 : decode cX8_goesOn 29 = .ok (.ireturn, 1) := by decide +kernel
set_option maxRecDepth 20000 in
theorem ggX8_goesAt_X8_goesBy : GoodIn wsX8_goesAt wsX8_goesBy := goodIn_r _ [8, 9, 10, 11, 12, 13, 7, 14, 15, 16, 17, 18, 19, 20, 21, 22, 23, 24, 25, 26, 27, 28, 29, 30, 31, 32, 33, 34, 35, 36, 37, 38, 39, 40, 41, 42, 43, 44, 45, 46, 47, 48, 49, 50, 51, 52] (by decide +kernel) (by decide +kernel)
set_option maxRecDepth 20000 in
theorem gX8_goesAt_X8_goesBy : GoodIn wsX8_goesAt (wsV RX8 166 RX8 yX8_goesBy wsX8_goesBy) := goodIn_app (goodIn_of _ (by decide +kernel)) ggX8_goesAt_X8_goesBy
theorem dX8_goesAt_0 : decode cX8_goesAt 0 = .ok (.aload_n 0, 1) := by decide +kernel
theorem dX8_goesAt_1 : decode cX8_goesAt 1 = .ok (.iload_n 1, 1) := by decide +kernel
theorem dX8_goesAt_2 : decode cX8_goesAt 2 = .ok (.aload_n 0, 1) := by decide +kernel
theorem dX8_goesAt_3 : decode cX8_goesAt 3 = .ok (.getfield 19, 3) := by decide +kernel
theorem dX8_goesAt_6 : decode cX8_goesAt 6 = .ok (.iload_n 2, 1) := by decide +kernel
theorem dX8_goesAt_7 : decode cX8_goesAt 7 = .ok (.iaload, 1) := by decide +kernel
theorem dX8_goesAt_8 : decode cX8_goesAt 8 = .ok (.aload_n 0, 1) := by decide +kernel
theorem dX8_goesAt_9 : decode cX8_goesAt 9 = .ok (.getfield 22, 3) := by decide +kernel
theorem dX8_goesAt_12 : decode cX8_goesAt 12 = .ok (.iload_n 2, 1) := by decide +kernel
theorem dX8_goesAt_13 : decode cX8_goesAt 13 = .ok (.iaload, 1) := by decide +kernel
theorem dX8_goesAt_14 : decode cX8_goesAt 14 = .ok (.aload_n 0, 1) := by decide +kernel
theorem dX8_goesAt_15 : decode cX8_goesAt 15 = .ok (.getfield 25, 3) := by decide +kernel
theorem dX8_goesAt_18 : decode cX8_goesAt 18 = .ok (.iload_n 2, 1) := by decide +kernel
theorem dX8_goesAt_19 : decode cX8_goesAt 19 = .ok (.iaload, 1) := by decide +kernel
theorem dX8_goesAt_20 : decode cX8_goesAt 20 = .ok (.invokevirtual 166, 3) := by decide +kernel
theorem dX8_goesAt_23 : decode cX8_goesAt 23 = .ok (.ireturn, 1) := by decide +kernel
theorem dX8_dangerOn_0 : decode cX8_dangerOn 0 = .ok (.aload_n 0, 1) := by decide +kernel
theorem dX8_dangerOn_1 : decode cX8_dangerOn 1 = .ok (.getfield 148, 3) := by decide +kernel
theorem dX8_dangerOn_4 : decode cX8_dangerOn 4 = .ok (.ifCond .ne 7, 3) := by decide +kernel
theorem dX8_dangerOn_7 : decode cX8_dangerOn 7 = .ok (.iconst 0, 1) := by decide +kernel
theorem dX8_dangerOn_8 : decode cX8_dangerOn 8 = .ok (.goto 14, 3) := by decide +kernel
theorem dX8_dangerOn_11 : decode cX8_dangerOn 11 = .ok (.aload_n 0, 1) := by decide +kernel
theorem dX8_dangerOn_12 : decode cX8_dangerOn 12 = .ok (.getfield 25, 3) := by decide +kernel
theorem dX8_dangerOn_15 : decode cX8_dangerOn 15 = .ok (.iload_n 1, 1) := by decide +kernel
theorem dX8_dangerOn_16 : decode cX8_dangerOn 16 = .ok (.aload_n 0, 1) := by decide +kernel
theorem dX8_dangerOn_17 : decode cX8_dangerOn 17 = .ok (.getfield 148, 3) := by decide +kernel
theorem dX8_dangerOn_20 : decode cX8_dangerOn 20 = .ok (.irem, 1) := by decide +kernel
theorem dX8_dangerOn_21 : decode cX8_dangerOn 21 = .ok (.iaload, 1) := by decide +kernel
theorem dX8_dangerOn_22 : decode cX8_dangerOn 22 = .ok (.ireturn, 1) := by decide +kernel
set_option maxRecDepth 20000 in
theorem ggX8_seenOn_X8_lives : GoodIn wsX8_seenOn wsX8_lives := goodIn_r _ [6, 1, 7, 8, 5, 9, 29, 30, 31, 32, 33, 34, 35, 36, 37, 38, 39, 40, 41, 42, 43, 44, 45, 46, 47, 48, 49, 50, 51, 52, 53, 54, 55, 56, 57, 58, 59, 60, 61, 62, 63, 64, 65, 66] (by decide +kernel) (by decide +kernel)
set_option maxRecDepth 20000 in
theorem gX8_seenOn_X8_lives : GoodIn wsX8_seenOn (wsV RX8 173 RX8 yX8_lives wsX8_lives) := goodIn_app (goodIn_of _ (by decide +kernel)) ggX8_seenOn_X8_lives
set_option maxRecDepth 20000 in
theorem ggX8_seenOn_X8_goesOn : GoodIn wsX8_seenOn wsX8_goesOn := goodIn_r _ [13, 14, 15, 16, 17, 5, 18, 19, 20, 21, 7, 8, 9, 22, 23, 24, 25, 26, 27, 28, 29, 30, 31, 32, 33, 34, 35, 36, 37, 38, 39, 40, 41, 42, 43, 44, 45, 46, 47, 48, 49, 50, 51, 52, 53, 54, 55, 56, 57, 58, 59, 60, 61, 62, 63, 64, 65, 66] (by decide +kernel) (by decide +kernel)
set_option maxRecDepth 20000 in
theorem gX8_seenOn_X8_goesOn : GoodIn wsX8_seenOn (wsV RX8 177 RX8 yX8_goesOn wsX8_goesOn) := goodIn_app (goodIn_of _ (by decide +kernel)) ggX8_seenOn_X8_goesOn
theorem dX8_seenOn_0 : decode cX8_seenOn 0 = .ok (.iconst 0, 1) := by decide +kernel
theorem dX8_seenOn_1 : decode cX8_seenOn 1 = .ok (.istore_n 2, 1) := by decide +kernel
theorem dX8_seenOn_2 : decode cX8_seenOn 2 = .ok (.iload_n 2, 1) := by decide +kernel
theorem dX8_seenOn_3 : decode cX8_seenOn 3 = .ok (.aload_n 0, 1) := by decide +kernel
theorem dX8_seenOn_4 : decode cX8_seenOn 4 = .ok (.getfield 28, 3) := by decide +kernel
theorem dX8_seenOn_7 : decode cX8_seenOn 7 = .ok (.bipush 8, 2) := by decide +kernel
theorem dX8_seenOn_9 : decode cX8_seenOn 9 = .ok (.iaload, 1) := by decide +kernel
theorem dX8_seenOn_10 : decode cX8_seenOn 10 = .ok (.if_icmp .ge 28, 3) := by decide +kernel
theorem dX8_seenOn_13 : decode cX8_seenOn 13 = .ok (.aload_n 0, 1) := by decide +kernel
theorem dX8_seenOn_14 : decode cX8_seenOn 14 = .ok (.iload_n 2, 1) := by decide +kernel
theorem dX8_seenOn_15 : decode cX8_seenOn 15 = .ok (.invokevirtual 173, 3) := by decide +kernel
theorem dX8_seenOn_18 : decode cX8_seenOn 18 = .ok (.ifCond .eq 14, 3) := by decide +kernel
theorem dX8_seenOn_21 : decode cX8_seenOn 21 = .ok (.aload_n 0, 1) := by decide +kernel
theorem dX8_seenOn_22 : decode cX8_seenOn 22 = .ok (.iload_n 2, 1) := by decide +kernel
theorem dX8_seenOn_23 : decode cX8_seenOn 23 = .ok (.iload_n 1, 1) := by decide +kernel
theorem dX8_seenOn_24 : decode cX8_seenOn 24 = .ok (.invokevirtual 177, 3) := by decide +kernel
theorem dX8_seenOn_27 : decode cX8_seenOn 27 = .ok (.ifCond .eq 5, 3) := by decide +kernel
theorem dX8_seenOn_30 : decode cX8_seenOn 30 = .ok (.iload_n 2, 1) := by decide +kernel
theorem dX8_seenOn_31 : decode cX8_seenOn 31 = .ok (.ireturn, 1) := by decide +kernel
theorem dX8_seenOn_32 : decode cX8_seenOn 32 = .ok (.iinc 2 1, 3) := by decide +kernel
theorem dX8_seenOn_35 : decode cX8_seenOn 35 = .ok (.goto (-33), 3) := by decide +kernel
theorem dX8_seenOn_38 : decode cX8_seenOn 38 = .ok (.iconst (-1), 1) := by decide +kernel
theorem dX8_seenOn_39 : decode cX8_seenOn 39 = .ok (.ireturn, 1) := by decide +kernel
set_option maxRecDepth 20000 in
theorem ggX8_placeOf_X8_bits : GoodIn wsX8_placeOf wsX8_bits := goodIn_r _ [5] (by decide +kernel) (by decide +kernel)
set_option maxRecDepth 20000 in
theorem gX8_placeOf_X8_bits : GoodIn wsX8_placeOf (va_wsS RX8 180 yX8_bits wsX8_bits) := goodIn_app (goodIn_of _ (by decide +kernel)) ggX8_placeOf_X8_bits
theorem dX8_placeOf_0 : decode cX8_placeOf 0 = .ok (.aload_n 0, 1) := by decide +kernel
theorem dX8_placeOf_1 : decode cX8_placeOf 1 = .ok (.getfield 28, 3) := by decide +kernel
theorem dX8_placeOf_4 : decode cX8_placeOf 4 = .ok (.bipush 9, 2) := by decide +kernel
theorem dX8_placeOf_6 : decode cX8_placeOf 6 = .ok (.iaload, 1) := by decide +kernel
theorem dX8_placeOf_7 : decode cX8_placeOf 7 = .ok (.iconst 1, 1) := by decide +kernel
theorem dX8_placeOf_8 : decode cX8_placeOf 8 = .ok (.iload_n 1, 1) := by decide +kernel
theorem dX8_placeOf_9 : decode cX8_placeOf 9 = .ok (.ishl, 1) := by decide +kernel
theorem dX8_placeOf_10 : decode cX8_placeOf 10 = .ok (.iconst 1, 1) := by decide +kernel
theorem dX8_placeOf_11 : decode cX8_placeOf 11 = .ok (.isub, 1) := by decide +kernel
theorem dX8_placeOf_12 : decode cX8_placeOf 12 = .ok (.iand, 1) := by decide +kernel
theorem dX8_placeOf_13 : decode cX8_placeOf 13 = .ok (.invokestatic 180, 3) := by decide +kernel
theorem dX8_placeOf_16 : decode cX8_placeOf 16 = .ok (.ireturn, 1) := by decide +kernel
set_option maxRecDepth 20000 in
theorem ggX8_told_X8_seenOn : GoodIn wsX8_told wsX8_seenOn := goodIn_r _ [13, 2, 14, 15, 16, 12, 17, 18, 19, 20, 21, 22, 23, 24, 3, 25, 26, 27, 28, 29, 30, 31, 32, 33, 34, 35, 36, 37, 38, 39, 40, 41, 42, 43, 44, 45, 46, 47, 48, 49, 50, 51, 52, 53, 54, 55, 56, 57, 58, 59, 60, 61, 62, 63, 64, 65, 66, 67, 68, 69, 70, 71, 72, 73, 74, 75, 76] (by decide +kernel) (by decide +kernel)
set_option maxRecDepth 20000 in
theorem gX8_told_X8_seenOn : GoodIn wsX8_told (wsV RX8 184 RX8 yX8_seenOn wsX8_seenOn) := goodIn_app (goodIn_of _ (by decide +kernel)) ggX8_told_X8_seenOn
theorem dX8_told_0 : decode cX8_told 0 = .ok (.iload_n 1, 1) := by decide +kernel
theorem dX8_told_1 : decode cX8_told 1 = .ok (.tableswitch 145 0 11 #[63, 68, 76, 81, 86, 94, 102, 110, 122, 130, 135, 140], 63) := by decide +kernel
theorem dX8_told_64 : decode cX8_told 64 = .ok (.aload_n 0, 1) := by decide +kernel
theorem dX8_told_65 : decode cX8_told 65 = .ok (.getfield 90, 3) := by decide +kernel
theorem dX8_told_68 : decode cX8_told 68 = .ok (.ireturn, 1) := by decide +kernel
theorem dX8_told_69 : decode cX8_told 69 = .ok (.aload_n 0, 1) := by decide +kernel
theorem dX8_told_70 : decode cX8_told 70 = .ok (.getfield 28, 3) := by decide +kernel
theorem dX8_told_73 : decode cX8_told 73 = .ok (.bipush 8, 2) := by decide +kernel
theorem dX8_told_75 : decode cX8_told 75 = .ok (.iaload, 1) := by decide +kernel
theorem dX8_told_76 : decode cX8_told 76 = .ok (.ireturn, 1) := by decide +kernel
theorem dX8_told_77 : decode cX8_told 77 = .ok (.aload_n 0, 1) := by decide +kernel
theorem dX8_told_78 : decode cX8_told 78 = .ok (.getfield 148, 3) := by decide +kernel
theorem dX8_told_81 : decode cX8_told 81 = .ok (.ireturn, 1) := by decide +kernel
theorem dX8_told_82 : decode cX8_told 82 = .ok (.aload_n 0, 1) := by decide +kernel
theorem dX8_told_83 : decode cX8_told 83 = .ok (.getfield 104, 3) := by decide +kernel
theorem dX8_told_86 : decode cX8_told 86 = .ok (.ireturn, 1) := by decide +kernel
theorem dX8_told_87 : decode cX8_told 87 = .ok (.aload_n 0, 1) := by decide +kernel
theorem dX8_told_88 : decode cX8_told 88 = .ok (.getfield 28, 3) := by decide +kernel
theorem dX8_told_91 : decode cX8_told 91 = .ok (.bipush 11, 2) := by decide +kernel
theorem dX8_told_93 : decode cX8_told 93 = .ok (.iaload, 1) := by decide +kernel
theorem dX8_told_94 : decode cX8_told 94 = .ok (.ireturn, 1) := by decide +kernel
theorem dX8_told_95 : decode cX8_told 95 = .ok (.aload_n 0, 1) := by decide +kernel
theorem dX8_told_96 : decode cX8_told 96 = .ok (.getfield 28, 3) := by decide +kernel
theorem dX8_told_99 : decode cX8_told 99 = .ok (.bipush 9, 2) := by decide +kernel
theorem dX8_told_101 : decode cX8_told 101 = .ok (.iaload, 1) := by decide +kernel
theorem dX8_told_102 : decode cX8_told 102 = .ok (.ireturn, 1) := by decide +kernel
theorem dX8_told_103 : decode cX8_told 103 = .ok (.aload_n 0, 1) := by decide +kernel
theorem dX8_told_104 : decode cX8_told 104 = .ok (.getfield 28, 3) := by decide +kernel
theorem dX8_told_107 : decode cX8_told 107 = .ok (.bipush 10, 2) := by decide +kernel
theorem dX8_told_109 : decode cX8_told 109 = .ok (.iaload, 1) := by decide +kernel
theorem dX8_told_110 : decode cX8_told 110 = .ok (.ireturn, 1) := by decide +kernel
theorem dX8_told_111 : decode cX8_told 111 = .ok (.aload_n 0, 1) := by decide +kernel
theorem dX8_told_112 : decode cX8_told 112 = .ok (.aload_n 0, 1) := by decide +kernel
theorem dX8_told_113 : decode cX8_told 113 = .ok (.getfield 28, 3) := by decide +kernel
theorem dX8_told_116 : decode cX8_told 116 = .ok (.bipush 11, 2) := by decide +kernel
theorem dX8_told_118 : decode cX8_told 118 = .ok (.iaload, 1) := by decide +kernel
theorem dX8_told_119 : decode cX8_told 119 = .ok (.invokevirtual 184, 3) := by decide +kernel
theorem dX8_told_122 : decode cX8_told 122 = .ok (.ireturn, 1) := by decide +kernel
theorem dX8_told_123 : decode cX8_told 123 = .ok (.aload_n 0, 1) := by decide +kernel
theorem dX8_told_124 : decode cX8_told 124 = .ok (.getfield 28, 3) := by decide +kernel
theorem dX8_told_127 : decode cX8_told 127 = .ok (.bipush 12, 2) := by decide +kernel
theorem dX8_told_129 : decode cX8_told 129 = .ok (.iaload, 1) := by decide +kernel
theorem dX8_told_130 : decode cX8_told 130 = .ok (.ireturn, 1) := by decide +kernel
theorem dX8_told_131 : decode cX8_told 131 = .ok (.aload_n 0, 1) := by decide +kernel
theorem dX8_told_132 : decode cX8_told 132 = .ok (.getfield 157, 3) := by decide +kernel
theorem dX8_told_135 : decode cX8_told 135 = .ok (.ireturn, 1) := by decide +kernel
theorem dX8_told_136 : decode cX8_told 136 = .ok (.aload_n 0, 1) := by decide +kernel
theorem dX8_told_137 : decode cX8_told 137 = .ok (.getfield 160, 3) := by decide +kernel
theorem dX8_told_140 : decode cX8_told 140 = .ok (.ireturn, 1) := by decide +kernel
theorem dX8_told_141 : decode cX8_told 141 = .ok (.aload_n 0, 1) := by decide +kernel
theorem dX8_told_142 : decode cX8_told 142 = .ok (.getfield 163, 3) := by decide +kernel
theorem dX8_told_145 : decode cX8_told 145 = .ok (.ireturn, 1) := by decide +kernel
theorem dX8_told_146 : decode cX8_told 146 = .ok (.ldc 103, 2) := by decide +kernel
theorem dX8_told_148 : decode cX8_told 148 = .ok (.ireturn, 1) := by decide +kernel
set_option maxRecDepth 20000 in
theorem ggX8_person_X8_isPerson : GoodIn wsX8_person wsX8_isPerson := goodIn_r _ [12, 2, 13, 14, 11, 15, 46, 47, 48, 49, 50, 51, 52, 53, 54, 55, 56, 57, 58, 59, 60, 61, 62, 63, 64, 65, 66, 67, 68, 69, 70, 71, 72, 73, 74, 75, 76, 77, 78, 79, 80, 81, 82, 83] (by decide +kernel) (by decide +kernel)
set_option maxRecDepth 20000 in
theorem gX8_person_X8_isPerson : GoodIn wsX8_person (wsV RX8 187 RX8 yX8_isPerson wsX8_isPerson) := goodIn_app (goodIn_of _ (by decide +kernel)) ggX8_person_X8_isPerson
set_option maxRecDepth 20000 in
theorem ggX8_person_X8_lives : GoodIn wsX8_person wsX8_lives := goodIn_r _ [19, 2, 20, 21, 11, 22, 46, 47, 48, 49, 50, 51, 52, 53, 54, 55, 56, 57, 58, 59, 60, 61, 62, 63, 64, 65, 66, 67, 68, 69, 70, 71, 72, 73, 74, 75, 76, 77, 78, 79, 80, 81, 82, 83] (by decide +kernel) (by decide +kernel)
set_option maxRecDepth 20000 in
theorem gX8_person_X8_lives : GoodIn wsX8_person (wsV RX8 173 RX8 yX8_lives wsX8_lives) := goodIn_app (goodIn_of _ (by decide +kernel)) ggX8_person_X8_lives
set_option maxRecDepth 20000 in
theorem ggX8_person_X8_placeOf : GoodIn wsX8_person wsX8_placeOf := goodIn_r _ [26, 2, 27, 28, 11, 29, 46, 47, 48, 49, 50, 51, 52, 53, 54, 55, 56, 57, 58, 59, 60, 61, 62, 63, 64, 65, 66, 67, 68, 69, 70, 71, 72, 73, 74, 75, 76, 77, 78, 79, 80, 81, 82, 83] (by decide +kernel) (by decide +kernel)
set_option maxRecDepth 20000 in
theorem gX8_person_X8_placeOf : GoodIn wsX8_person (wsV RX8 191 RX8 yX8_placeOf wsX8_placeOf) := goodIn_app (goodIn_of _ (by decide +kernel)) ggX8_person_X8_placeOf
set_option maxRecDepth 20000 in
theorem ggX8_person_X8_goesOn : GoodIn wsX8_person wsX8_goesOn := goodIn_r _ [33, 34, 35, 36, 37, 11, 38, 3, 4, 5, 20, 21, 22, 39, 40, 41, 42, 43, 44, 45, 46, 47, 48, 49, 50, 51, 52, 53, 54, 55, 56, 57, 58, 59, 60, 61, 62, 63, 64, 65, 66, 67, 68, 69, 70, 71, 72, 73, 74, 75, 76, 77, 78, 79, 80, 81, 82, 83] (by decide +kernel) (by decide +kernel)
set_option maxRecDepth 20000 in
theorem gX8_person_X8_goesOn : GoodIn wsX8_person (wsV RX8 177 RX8 yX8_goesOn wsX8_goesOn) := goodIn_app (goodIn_of _ (by decide +kernel)) ggX8_person_X8_goesOn
theorem dX8_person_0 : decode cX8_person 0 = .ok (.aload_n 0, 1) := by decide +kernel
theorem dX8_person_1 : decode cX8_person 1 = .ok (.iload_n 1, 1) := by decide +kernel
theorem dX8_person_2 : decode cX8_person 2 = .ok (.invokevirtual 187, 3) := by decide +kernel
theorem dX8_person_5 : decode cX8_person 5 = .ok (.ifCond .ne 6, 3) := by decide +kernel
theorem dX8_person_8 : decode cX8_person 8 = .ok (.ldc 190, 2) := by decide +kernel
theorem dX8_person_10 : decode cX8_person 10 = .ok (.ireturn, 1) := by decide +kernel
theorem dX8_person_11 : decode cX8_person 11 = .ok (.iload_n 2, 1) := by decide +kernel
theorem dX8_person_12 : decode cX8_person 12 = .ok (.tableswitch 134 0 6 #[44, 51, 58, 65, 72, 90, 113], 44) := by decide +kernel
theorem dX8_person_56 : decode cX8_person 56 = .ok (.aload_n 0, 1) := by decide +kernel
theorem dX8_person_57 : decode cX8_person 57 = .ok (.getfield 28, 3) := by decide +kernel
theorem dX8_person_60 : decode cX8_person 60 = .ok (.iload_n 1, 1) := by decide +kernel
theorem dX8_person_61 : decode cX8_person 61 = .ok (.iaload, 1) := by decide +kernel
theorem dX8_person_62 : decode cX8_person 62 = .ok (.ireturn, 1) := by decide +kernel
theorem dX8_person_63 : decode cX8_person 63 = .ok (.aload_n 0, 1) := by decide +kernel
theorem dX8_person_64 : decode cX8_person 64 = .ok (.getfield 7, 3) := by decide +kernel
theorem dX8_person_67 : decode cX8_person 67 = .ok (.iload_n 1, 1) := by decide +kernel
theorem dX8_person_68 : decode cX8_person 68 = .ok (.iaload, 1) := by decide +kernel
theorem dX8_person_69 : decode cX8_person 69 = .ok (.ireturn, 1) := by decide +kernel
theorem dX8_person_70 : decode cX8_person 70 = .ok (.aload_n 0, 1) := by decide +kernel
theorem dX8_person_71 : decode cX8_person 71 = .ok (.getfield 13, 3) := by decide +kernel
theorem dX8_person_74 : decode cX8_person 74 = .ok (.iload_n 1, 1) := by decide +kernel
theorem dX8_person_75 : decode cX8_person 75 = .ok (.iaload, 1) := by decide +kernel
theorem dX8_person_76 : decode cX8_person 76 = .ok (.ireturn, 1) := by decide +kernel
theorem dX8_person_77 : decode cX8_person 77 = .ok (.aload_n 0, 1) := by decide +kernel
theorem dX8_person_78 : decode cX8_person 78 = .ok (.getfield 16, 3) := by decide +kernel
theorem dX8_person_81 : decode cX8_person 81 = .ok (.iload_n 1, 1) := by decide +kernel
theorem dX8_person_82 : decode cX8_person 82 = .ok (.iaload, 1) := by decide +kernel
theorem dX8_person_83 : decode cX8_person 83 = .ok (.ireturn, 1) := by decide +kernel
theorem dX8_person_84 : decode cX8_person 84 = .ok (.aload_n 0, 1) := by decide +kernel
theorem dX8_person_85 : decode cX8_person 85 = .ok (.iload_n 1, 1) := by decide +kernel
theorem dX8_person_86 : decode cX8_person 86 = .ok (.invokevirtual 173, 3) := by decide +kernel
theorem dX8_person_89 : decode cX8_person 89 = .ok (.ifCond .eq 11, 3) := by decide +kernel
theorem dX8_person_92 : decode cX8_person 92 = .ok (.aload_n 0, 1) := by decide +kernel
theorem dX8_person_93 : decode cX8_person 93 = .ok (.iload_n 1, 1) := by decide +kernel
theorem dX8_person_94 : decode cX8_person 94 = .ok (.invokevirtual 191, 3) := by decide +kernel
theorem dX8_person_97 : decode cX8_person 97 = .ok (.goto 4, 3) := by decide +kernel
theorem dX8_person_100 : decode cX8_person 100 = .ok (.iconst (-1), 1) := by decide +kernel
theorem dX8_person_101 : decode cX8_person 101 = .ok (.ireturn, 1) := by decide +kernel
theorem dX8_person_102 : decode cX8_person 102 = .ok (.aload_n 0, 1) := by decide +kernel
theorem dX8_person_103 : decode cX8_person 103 = .ok (.iload_n 1, 1) := by decide +kernel
theorem dX8_person_104 : decode cX8_person 104 = .ok (.invokevirtual 173, 3) := by decide +kernel
theorem dX8_person_107 : decode cX8_person 107 = .ok (.ifCond .eq 16, 3) := by decide +kernel
theorem dX8_person_110 : decode cX8_person 110 = .ok (.aload_n 0, 1) := by decide +kernel
theorem dX8_person_111 : decode cX8_person 111 = .ok (.getfield 90, 3) := by decide +kernel
theorem dX8_person_114 : decode cX8_person 114 = .ok (.aload_n 0, 1) := by decide +kernel
theorem dX8_person_115 : decode cX8_person 115 = .ok (.iload_n 1, 1) := by decide +kernel
theorem dX8_person_116 : decode cX8_person 116 = .ok (.invokevirtual 191, 3) := by decide +kernel
theorem dX8_person_119 : decode cX8_person 119 = .ok (.ishr, 1) := by decide +kernel
theorem dX8_person_120 : decode cX8_person 120 = .ok (.goto 4, 3) := by decide +kernel
theorem dX8_person_123 : decode cX8_person 123 = .ok (.iconst 0, 1) := by decide +kernel
theorem dX8_person_124 : decode cX8_person 124 = .ok (.ireturn, 1) := by decide +kernel
theorem dX8_person_125 : decode cX8_person 125 = .ok (.aload_n 0, 1) := by decide +kernel
theorem dX8_person_126 : decode cX8_person 126 = .ok (.iload_n 1, 1) := by decide +kernel
theorem dX8_person_127 : decode cX8_person 127 = .ok (.aload_n 0, 1) := by decide +kernel
theorem dX8_person_128 : decode cX8_person 128 = .ok (.getfield 28, 3) := by decide +kernel
theorem dX8_person_131 : decode cX8_person 131 = .ok (.bipush 11, 2) := by decide +kernel
theorem dX8_person_133 : decode cX8_person 133 = .ok (.iaload, 1) := by decide +kernel
theorem dX8_person_134 : decode cX8_person 134 = .ok (.invokevirtual 177, 3) := by decide +kernel
theorem dX8_person_137 : decode cX8_person 137 = .ok (.ifCond .eq 7, 3) := by decide +kernel
theorem dX8_person_140 : decode cX8_person 140 = .ok (.iconst 1, 1) := by decide +kernel
theorem dX8_person_141 : decode cX8_person 141 = .ok (.goto 4, 3) := by decide +kernel
theorem dX8_person_144 : decode cX8_person 144 = .ok (.iconst 0, 1) := by decide +kernel
theorem dX8_person_145 : decode cX8_person 145 = .ok (.ireturn, 1) := by decide +kernel
theorem dX8_person_146 : decode cX8_person 146 = .ok (.ldc 103, 2) := by decide +kernel
theorem dX8_person_148 : decode cX8_person 148 = .ok (.ireturn, 1) := by decide +kernel
set_option maxRecDepth 20000 in
theorem ggX8_dayTold_X8_in : GoodIn wsX8_dayTold wsX8_in := goodIn_r _ [10] (by decide +kernel) (by decide +kernel)
set_option maxRecDepth 20000 in
theorem gX8_dayTold_X8_in : GoodIn wsX8_dayTold (va_wsS RX8 97 yX8_in wsX8_in) := goodIn_app (goodIn_of _ (by decide +kernel)) ggX8_dayTold_X8_in
theorem dX8_dayTold_0 : decode cX8_dayTold 0 = .ok (.iload_n 1, 1) := by decide +kernel
theorem dX8_dayTold_1 : decode cX8_dayTold 1 = .ok (.i2l, 1) := by decide +kernel
theorem dX8_dayTold_2 : decode cX8_dayTold 2 = .ok (.lconst 0, 1) := by decide +kernel
theorem dX8_dayTold_3 : decode cX8_dayTold 3 = .ok (.aload_n 0, 1) := by decide +kernel
theorem dX8_dayTold_4 : decode cX8_dayTold 4 = .ok (.getfield 148, 3) := by decide +kernel
theorem dX8_dayTold_7 : decode cX8_dayTold 7 = .ok (.iconst 1, 1) := by decide +kernel
theorem dX8_dayTold_8 : decode cX8_dayTold 8 = .ok (.isub, 1) := by decide +kernel
theorem dX8_dayTold_9 : decode cX8_dayTold 9 = .ok (.i2l, 1) := by decide +kernel
theorem dX8_dayTold_10 : decode cX8_dayTold 10 = .ok (.invokestatic 97, 3) := by decide +kernel
theorem dX8_dayTold_13 : decode cX8_dayTold 13 = .ok (.ifCond .ne 6, 3) := by decide +kernel
theorem dX8_dayTold_16 : decode cX8_dayTold 16 = .ok (.ldc 190, 2) := by decide +kernel
theorem dX8_dayTold_18 : decode cX8_dayTold 18 = .ok (.ireturn, 1) := by decide +kernel
theorem dX8_dayTold_19 : decode cX8_dayTold 19 = .ok (.iload_n 2, 1) := by decide +kernel
theorem dX8_dayTold_20 : decode cX8_dayTold 20 = .ok (.ifCond .ne 12, 3) := by decide +kernel
theorem dX8_dayTold_23 : decode cX8_dayTold 23 = .ok (.aload_n 0, 1) := by decide +kernel
theorem dX8_dayTold_24 : decode cX8_dayTold 24 = .ok (.getfield 19, 3) := by decide +kernel
theorem dX8_dayTold_27 : decode cX8_dayTold 27 = .ok (.iload_n 1, 1) := by decide +kernel
theorem dX8_dayTold_28 : decode cX8_dayTold 28 = .ok (.iaload, 1) := by decide +kernel
theorem dX8_dayTold_29 : decode cX8_dayTold 29 = .ok (.goto 33, 3) := by decide +kernel
theorem dX8_dayTold_32 : decode cX8_dayTold 32 = .ok (.iload_n 2, 1) := by decide +kernel
theorem dX8_dayTold_33 : decode cX8_dayTold 33 = .ok (.iconst 1, 1) := by decide +kernel
theorem dX8_dayTold_34 : decode cX8_dayTold 34 = .ok (.if_icmp .ne 12, 3) := by decide +kernel
theorem dX8_dayTold_37 : decode cX8_dayTold 37 = .ok (.aload_n 0, 1) := by decide +kernel
theorem dX8_dayTold_38 : decode cX8_dayTold 38 = .ok (.getfield 22, 3) := by decide +kernel
theorem dX8_dayTold_41 : decode cX8_dayTold 41 = .ok (.iload_n 1, 1) := by decide +kernel
theorem dX8_dayTold_42 : decode cX8_dayTold 42 = .ok (.iaload, 1) := by decide +kernel
theorem dX8_dayTold_43 : decode cX8_dayTold 43 = .ok (.goto 19, 3) := by decide +kernel
theorem dX8_dayTold_46 : decode cX8_dayTold 46 = .ok (.iload_n 2, 1) := by decide +kernel
theorem dX8_dayTold_47 : decode cX8_dayTold 47 = .ok (.iconst 2, 1) := by decide +kernel
theorem dX8_dayTold_48 : decode cX8_dayTold 48 = .ok (.if_icmp .ne 12, 3) := by decide +kernel
theorem dX8_dayTold_51 : decode cX8_dayTold 51 = .ok (.aload_n 0, 1) := by decide +kernel
theorem dX8_dayTold_52 : decode cX8_dayTold 52 = .ok (.getfield 25, 3) := by decide +kernel
theorem dX8_dayTold_55 : decode cX8_dayTold 55 = .ok (.iload_n 1, 1) := by decide +kernel
theorem dX8_dayTold_56 : decode cX8_dayTold 56 = .ok (.iaload, 1) := by decide +kernel
theorem dX8_dayTold_57 : decode cX8_dayTold 57 = .ok (.goto 5, 3) := by decide +kernel
theorem dX8_dayTold_60 : decode cX8_dayTold 60 = .ok (.ldc 103, 2) := by decide +kernel
theorem dX8_dayTold_62 : decode cX8_dayTold 62 = .ok (.ireturn, 1) := by decide +kernel
theorem dX8_remember_0 : decode cX8_remember 0 = .ok (.aload_n 0, 1) := by decide +kernel
theorem dX8_remember_1 : decode cX8_remember 1 = .ok (.getfield 163, 3) := by decide +kernel
theorem dX8_remember_4 : decode cX8_remember 4 = .ok (.bipush 20, 2) := by decide +kernel
theorem dX8_remember_6 : decode cX8_remember 6 = .ok (.if_icmp .ne 44, 3) := by decide +kernel
theorem dX8_remember_9 : decode cX8_remember 9 = .ok (.bipush 13, 2) := by decide +kernel
theorem dX8_remember_11 : decode cX8_remember 11 = .ok (.istore_n 1, 1) := by decide +kernel
theorem dX8_remember_12 : decode cX8_remember 12 = .ok (.iload_n 1, 1) := by decide +kernel
theorem dX8_remember_13 : decode cX8_remember 13 = .ok (.sipush 260, 3) := by decide +kernel
theorem dX8_remember_16 : decode cX8_remember 16 = .ok (.if_icmp .ge 24, 3) := by decide +kernel
theorem dX8_remember_19 : decode cX8_remember 19 = .ok (.aload_n 0, 1) := by decide +kernel
theorem dX8_remember_20 : decode cX8_remember 20 = .ok (.getfield 62, 3) := by decide +kernel
theorem dX8_remember_23 : decode cX8_remember 23 = .ok (.iload_n 1, 1) := by decide +kernel
theorem dX8_remember_24 : decode cX8_remember 24 = .ok (.bipush 13, 2) := by decide +kernel
theorem dX8_remember_26 : decode cX8_remember 26 = .ok (.isub, 1) := by decide +kernel
theorem dX8_remember_27 : decode cX8_remember 27 = .ok (.aload_n 0, 1) := by decide +kernel
theorem dX8_remember_28 : decode cX8_remember 28 = .ok (.getfield 62, 3) := by decide +kernel
theorem dX8_remember_31 : decode cX8_remember 31 = .ok (.iload_n 1, 1) := by decide +kernel
theorem dX8_remember_32 : decode cX8_remember 32 = .ok (.iaload, 1) := by decide +kernel
theorem dX8_remember_33 : decode cX8_remember 33 = .ok (.iastore, 1) := by decide +kernel
theorem dX8_remember_34 : decode cX8_remember 34 = .ok (.iinc 1 1, 3) := by decide +kernel
theorem dX8_remember_37 : decode cX8_remember 37 = .ok (.goto (-25), 3) := by decide +kernel
theorem dX8_remember_40 : decode cX8_remember 40 = .ok (.aload_n 0, 1) := by decide +kernel
theorem dX8_remember_41 : decode cX8_remember 41 = .ok (.dup, 1) := by decide +kernel
theorem dX8_remember_42 : decode cX8_remember 42 = .ok (.getfield 163, 3) := by decide +kernel
theorem dX8_remember_45 : decode cX8_remember 45 = .ok (.iconst 1, 1) := by decide +kernel
theorem dX8_remember_46 : decode cX8_remember 46 = .ok (.isub, 1) := by decide +kernel
theorem dX8_remember_47 : decode cX8_remember 47 = .ok (.putfield 163, 3) := by decide +kernel
theorem dX8_remember_50 : decode cX8_remember 50 = .ok (.iconst 0, 1) := by decide +kernel
theorem dX8_remember_51 : decode cX8_remember 51 = .ok (.istore_n 1, 1) := by decide +kernel
theorem dX8_remember_52 : decode cX8_remember 52 = .ok (.iload_n 1, 1) := by decide +kernel
theorem dX8_remember_53 : decode cX8_remember 53 = .ok (.bipush 13, 2) := by decide +kernel
theorem dX8_remember_55 : decode cX8_remember 55 = .ok (.if_icmp .ge 29, 3) := by decide +kernel
theorem dX8_remember_58 : decode cX8_remember 58 = .ok (.aload_n 0, 1) := by decide +kernel
theorem dX8_remember_59 : decode cX8_remember 59 = .ok (.getfield 62, 3) := by decide +kernel
theorem dX8_remember_62 : decode cX8_remember 62 = .ok (.bipush 13, 2) := by decide +kernel
theorem dX8_remember_64 : decode cX8_remember 64 = .ok (.aload_n 0, 1) := by decide +kernel
theorem dX8_remember_65 : decode cX8_remember 65 = .ok (.getfield 163, 3) := by decide +kernel
theorem dX8_remember_68 : decode cX8_remember 68 = .ok (.imul, 1) := by decide +kernel
theorem dX8_remember_69 : decode cX8_remember 69 = .ok (.iload_n 1, 1) := by decide +kernel
theorem dX8_remember_70 : decode cX8_remember 70 = .ok (.iadd, 1) := by decide +kernel
theorem dX8_remember_71 : decode cX8_remember 71 = .ok (.aload_n 0, 1) := by decide +kernel
theorem dX8_remember_72 : decode cX8_remember 72 = .ok (.getfield 28, 3) := by decide +kernel
theorem dX8_remember_75 : decode cX8_remember 75 = .ok (.iload_n 1, 1) := by decide +kernel
theorem dX8_remember_76 : decode cX8_remember 76 = .ok (.iaload, 1) := by decide +kernel
theorem dX8_remember_77 : decode cX8_remember 77 = .ok (.iastore, 1) := by decide +kernel
theorem dX8_remember_78 : decode cX8_remember 78 = .ok (.iinc 1 1, 3) := by decide +kernel
theorem dX8_remember_81 : decode cX8_remember 81 = .ok (.goto (-29), 3) := by decide +kernel
theorem dX8_remember_84 : decode cX8_remember 84 = .ok (.aload_n 0, 1) := by decide +kernel
theorem dX8_remember_85 : decode cX8_remember 85 = .ok (.dup, 1) := by decide +kernel
theorem dX8_remember_86 : decode cX8_remember 86 = .ok (.getfield 163, 3) := by decide +kernel
theorem dX8_remember_89 : decode cX8_remember 89 = .ok (.iconst 1, 1) := by decide +kernel
theorem dX8_remember_90 : decode cX8_remember 90 = .ok (.iadd, 1) := by decide +kernel
theorem dX8_remember_91 : decode cX8_remember 91 = .ok (.putfield 163, 3) := by decide +kernel
theorem dX8_remember_94 : decode cX8_remember 94 = .ok (.return_, 1) := by decide +kernel
set_option maxRecDepth 20000 in
theorem ggX8_copyMarks_X8_lives : GoodIn wsX8_copyMarks wsX8_lives := goodIn_r _ [7, 2, 8, 9, 6, 10, 14, 15, 16, 17, 18, 19, 20, 21, 22, 23, 24, 25, 26, 27, 28, 29, 30, 31, 32, 33, 34, 35, 36, 37, 38, 39, 40, 41, 42, 43, 44, 45, 46, 47, 48, 49, 50, 51] (by decide +kernel) (by decide +kernel)
set_option maxRecDepth 20000 in
theorem gX8_copyMarks_X8_lives : GoodIn wsX8_copyMarks (wsV RX8 173 RX8 yX8_lives wsX8_lives) := goodIn_app (goodIn_of _ (by decide +kernel)) ggX8_copyMarks_X8_lives
set_option maxRecDepth 20000 in
theorem ggX8_copyMarks_X8_least : GoodIn wsX8_copyMarks wsX8_least := goodIn_r _ [13, 8, 9, 6, 10] (by decide +kernel) (by decide +kernel)
set_option maxRecDepth 20000 in
theorem gX8_copyMarks_X8_least : GoodIn wsX8_copyMarks (va_wsS RX8 194 yX8_least wsX8_least) := goodIn_app (goodIn_of _ (by decide +kernel)) ggX8_copyMarks_X8_least
theorem dX8_copyMarks_0 : decode cX8_copyMarks 0 = .ok (.iconst 0, 1) := by decide +kernel
theorem dX8_copyMarks_1 : decode cX8_copyMarks 1 = .ok (.istore_n 1, 1) := by decide +kernel
theorem dX8_copyMarks_2 : decode cX8_copyMarks 2 = .ok (.iload_n 1, 1) := by decide +kernel
theorem dX8_copyMarks_3 : decode cX8_copyMarks 3 = .ok (.bipush 8, 2) := by decide +kernel
theorem dX8_copyMarks_5 : decode cX8_copyMarks 5 = .ok (.if_icmp .ge 21, 3) := by decide +kernel
theorem dX8_copyMarks_8 : decode cX8_copyMarks 8 = .ok (.aload_n 0, 1) := by decide +kernel
theorem dX8_copyMarks_9 : decode cX8_copyMarks 9 = .ok (.getfield 65, 3) := by decide +kernel
theorem dX8_copyMarks_12 : decode cX8_copyMarks 12 = .ok (.iload_n 1, 1) := by decide +kernel
theorem dX8_copyMarks_13 : decode cX8_copyMarks 13 = .ok (.aload_n 0, 1) := by decide +kernel
theorem dX8_copyMarks_14 : decode cX8_copyMarks 14 = .ok (.getfield 28, 3) := by decide +kernel
theorem dX8_copyMarks_17 : decode cX8_copyMarks 17 = .ok (.iload_n 1, 1) := by decide +kernel
theorem dX8_copyMarks_18 : decode cX8_copyMarks 18 = .ok (.iaload, 1) := by decide +kernel
theorem dX8_copyMarks_19 : decode cX8_copyMarks 19 = .ok (.iastore, 1) := by decide +kernel
theorem dX8_copyMarks_20 : decode cX8_copyMarks 20 = .ok (.iinc 1 1, 3) := by decide +kernel
theorem dX8_copyMarks_23 : decode cX8_copyMarks 23 = .ok (.goto (-21), 3) := by decide +kernel
theorem dX8_copyMarks_26 : decode cX8_copyMarks 26 = .ok (.iconst (-1), 1) := by decide +kernel
theorem dX8_copyMarks_27 : decode cX8_copyMarks 27 = .ok (.istore_n 1, 1) := by decide +kernel
theorem dX8_copyMarks_28 : decode cX8_copyMarks 28 = .ok (.iconst 0, 1) := by decide +kernel
theorem dX8_copyMarks_29 : decode cX8_copyMarks 29 = .ok (.istore_n 2, 1) := by decide +kernel
theorem dX8_copyMarks_30 : decode cX8_copyMarks 30 = .ok (.iload_n 2, 1) := by decide +kernel
theorem dX8_copyMarks_31 : decode cX8_copyMarks 31 = .ok (.aload_n 0, 1) := by decide +kernel
theorem dX8_copyMarks_32 : decode cX8_copyMarks 32 = .ok (.getfield 28, 3) := by decide +kernel
theorem dX8_copyMarks_35 : decode cX8_copyMarks 35 = .ok (.bipush 8, 2) := by decide +kernel
theorem dX8_copyMarks_37 : decode cX8_copyMarks 37 = .ok (.iaload, 1) := by decide +kernel
theorem dX8_copyMarks_38 : decode cX8_copyMarks 38 = .ok (.if_icmp .ge 112, 3) := by decide +kernel
theorem dX8_copyMarks_41 : decode cX8_copyMarks 41 = .ok (.aload_n 0, 1) := by decide +kernel
theorem dX8_copyMarks_42 : decode cX8_copyMarks 42 = .ok (.iload_n 2, 1) := by decide +kernel
theorem dX8_copyMarks_43 : decode cX8_copyMarks 43 = .ok (.invokevirtual 173, 3) := by decide +kernel
theorem dX8_copyMarks_46 : decode cX8_copyMarks 46 = .ok (.ifCond .eq 98, 3) := by decide +kernel
theorem dX8_copyMarks_49 : decode cX8_copyMarks 49 = .ok (.iload_n 1, 1) := by decide +kernel
theorem dX8_copyMarks_50 : decode cX8_copyMarks 50 = .ok (.ifCond .lt 92, 3) := by decide +kernel
theorem dX8_copyMarks_53 : decode cX8_copyMarks 53 = .ok (.aload_n 0, 1) := by decide +kernel
theorem dX8_copyMarks_54 : decode cX8_copyMarks 54 = .ok (.getfield 65, 3) := by decide +kernel
theorem dX8_copyMarks_57 : decode cX8_copyMarks 57 = .ok (.iload_n 1, 1) := by decide +kernel
theorem dX8_copyMarks_58 : decode cX8_copyMarks 58 = .ok (.iaload, 1) := by decide +kernel
theorem dX8_copyMarks_59 : decode cX8_copyMarks 59 = .ok (.aload_n 0, 1) := by decide +kernel
theorem dX8_copyMarks_60 : decode cX8_copyMarks 60 = .ok (.getfield 65, 3) := by decide +kernel
theorem dX8_copyMarks_63 : decode cX8_copyMarks 63 = .ok (.iload_n 2, 1) := by decide +kernel
theorem dX8_copyMarks_64 : decode cX8_copyMarks 64 = .ok (.iaload, 1) := by decide +kernel
theorem dX8_copyMarks_65 : decode cX8_copyMarks 65 = .ok (.iconst (-1), 1) := by decide +kernel
theorem dX8_copyMarks_66 : decode cX8_copyMarks 66 = .ok (.ixor, 1) := by decide +kernel
theorem dX8_copyMarks_67 : decode cX8_copyMarks 67 = .ok (.iand, 1) := by decide +kernel
theorem dX8_copyMarks_68 : decode cX8_copyMarks 68 = .ok (.istore_n 3, 1) := by decide +kernel
theorem dX8_copyMarks_69 : decode cX8_copyMarks 69 = .ok (.aload_n 0, 1) := by decide +kernel
theorem dX8_copyMarks_70 : decode cX8_copyMarks 70 = .ok (.getfield 65, 3) := by decide +kernel
theorem dX8_copyMarks_73 : decode cX8_copyMarks 73 = .ok (.iload_n 2, 1) := by decide +kernel
theorem dX8_copyMarks_74 : decode cX8_copyMarks 74 = .ok (.iaload, 1) := by decide +kernel
theorem dX8_copyMarks_75 : decode cX8_copyMarks 75 = .ok (.aload_n 0, 1) := by decide +kernel
theorem dX8_copyMarks_76 : decode cX8_copyMarks 76 = .ok (.getfield 65, 3) := by decide +kernel
theorem dX8_copyMarks_79 : decode cX8_copyMarks 79 = .ok (.iload_n 1, 1) := by decide +kernel
theorem dX8_copyMarks_80 : decode cX8_copyMarks 80 = .ok (.iaload, 1) := by decide +kernel
theorem dX8_copyMarks_81 : decode cX8_copyMarks 81 = .ok (.iconst (-1), 1) := by decide +kernel
theorem dX8_copyMarks_82 : decode cX8_copyMarks 82 = .ok (.ixor, 1) := by decide +kernel
theorem dX8_copyMarks_83 : decode cX8_copyMarks 83 = .ok (.iand, 1) := by decide +kernel
theorem dX8_copyMarks_84 : decode cX8_copyMarks 84 = .ok (.istore 4, 2) := by decide +kernel
theorem dX8_copyMarks_86 : decode cX8_copyMarks 86 = .ok (.aload_n 0, 1) := by decide +kernel
theorem dX8_copyMarks_87 : decode cX8_copyMarks 87 = .ok (.getfield 28, 3) := by decide +kernel
theorem dX8_copyMarks_90 : decode cX8_copyMarks 90 = .ok (.iload_n 2, 1) := by decide +kernel
theorem dX8_copyMarks_91 : decode cX8_copyMarks 91 = .ok (.iload_n 3, 1) := by decide +kernel
theorem dX8_copyMarks_92 : decode cX8_copyMarks 92 = .ok (.ifCond .eq 19, 3) := by decide +kernel
theorem dX8_copyMarks_95 : decode cX8_copyMarks 95 = .ok (.aload_n 0, 1) := by decide +kernel
theorem dX8_copyMarks_96 : decode cX8_copyMarks 96 = .ok (.getfield 65, 3) := by decide +kernel
theorem dX8_copyMarks_99 : decode cX8_copyMarks 99 = .ok (.iload_n 2, 1) := by decide +kernel
theorem dX8_copyMarks_100 : decode cX8_copyMarks 100 = .ok (.iaload, 1) := by decide +kernel
theorem dX8_copyMarks_101 : decode cX8_copyMarks 101 = .ok (.iconst 1, 1) := by decide +kernel
theorem dX8_copyMarks_102 : decode cX8_copyMarks 102 = .ok (.iload_n 3, 1) := by decide +kernel
theorem dX8_copyMarks_103 : decode cX8_copyMarks 103 = .ok (.invokestatic 194, 3) := by decide +kernel
theorem dX8_copyMarks_106 : decode cX8_copyMarks 106 = .ok (.ishl, 1) := by decide +kernel
theorem dX8_copyMarks_107 : decode cX8_copyMarks 107 = .ok (.ior, 1) := by decide +kernel
theorem dX8_copyMarks_108 : decode cX8_copyMarks 108 = .ok (.goto 33, 3) := by decide +kernel
theorem dX8_copyMarks_111 : decode cX8_copyMarks 111 = .ok (.iload 4, 2) := by decide +kernel
theorem dX8_copyMarks_113 : decode cX8_copyMarks 113 = .ok (.ifCond .eq 22, 3) := by decide +kernel
theorem dX8_copyMarks_116 : decode cX8_copyMarks 116 = .ok (.aload_n 0, 1) := by decide +kernel
theorem dX8_copyMarks_117 : decode cX8_copyMarks 117 = .ok (.getfield 65, 3) := by decide +kernel
theorem dX8_copyMarks_120 : decode cX8_copyMarks 120 = .ok (.iload_n 2, 1) := by decide +kernel
theorem dX8_copyMarks_121 : decode cX8_copyMarks 121 = .ok (.iaload, 1) := by decide +kernel
theorem dX8_copyMarks_122 : decode cX8_copyMarks 122 = .ok (.iconst 1, 1) := by decide +kernel
theorem dX8_copyMarks_123 : decode cX8_copyMarks 123 = .ok (.iload 4, 2) := by decide +kernel
theorem dX8_copyMarks_125 : decode cX8_copyMarks 125 = .ok (.invokestatic 194, 3) := by decide +kernel
theorem dX8_copyMarks_128 : decode cX8_copyMarks 128 = .ok (.ishl, 1) := by decide +kernel
theorem dX8_copyMarks_129 : decode cX8_copyMarks 129 = .ok (.iconst (-1), 1) := by decide +kernel
theorem dX8_copyMarks_130 : decode cX8_copyMarks 130 = .ok (.ixor, 1) := by decide +kernel
theorem dX8_copyMarks_131 : decode cX8_copyMarks 131 = .ok (.iand, 1) := by decide +kernel
theorem dX8_copyMarks_132 : decode cX8_copyMarks 132 = .ok (.goto 9, 3) := by decide +kernel
theorem dX8_copyMarks_135 : decode cX8_copyMarks 135 = .ok (.aload_n 0, 1) := by decide +kernel
theorem dX8_copyMarks_136 : decode cX8_copyMarks 136 = .ok (.getfield 65, 3) := by decide +kernel
theorem dX8_copyMarks_139 : decode cX8_copyMarks 139 = .ok (.iload_n 2, 1) := by decide +kernel
theorem dX8_copyMarks_140 : decode cX8_copyMarks 140 = .ok (.iaload, 1) := by decide +kernel
theorem dX8_copyMarks_141 : decode cX8_copyMarks 141 = .ok (.iastore, 1) := by decide +kernel
theorem dX8_copyMarks_142 : decode cX8_copyMarks 142 = .ok (.iload_n 2, 1) := by decide +kernel
theorem dX8_copyMarks_143 : decode cX8_copyMarks 143 = .ok (.istore_n 1, 1) := by decide +kernel
theorem dX8_copyMarks_144 : decode cX8_copyMarks 144 = .ok (.iinc 2 1, 3) := by decide +kernel
theorem dX8_copyMarks_147 : decode cX8_copyMarks 147 = .ok (.goto (-117), 3) := by decide +kernel
theorem dX8_copyMarks_150 : decode cX8_copyMarks 150 = .ok (.return_, 1) := by decide +kernel
set_option maxRecDepth 20000 in
theorem ggX8_pass_X8_seenOn : GoodIn wsX8_pass wsX8_seenOn := goodIn_r _ [8, 1, 9, 10, 11, 7, 12, 13, 14, 15, 16, 17, 18, 19, 20, 21, 22, 23, 24, 25, 26, 27, 28, 29, 30, 31, 32, 33, 34, 46, 47, 48, 49, 50, 51, 52, 53, 54, 55, 56, 57, 58, 59, 60, 61, 62, 63, 64, 65, 66, 67, 68, 69, 70, 71, 72, 73, 74, 75, 76, 77, 78, 79, 80, 81, 82, 83] (by decide +kernel) (by decide +kernel)
set_option maxRecDepth 20000 in
theorem gX8_pass_X8_seenOn : GoodIn wsX8_pass (wsV RX8 184 RX8 yX8_seenOn wsX8_seenOn) := goodIn_app (goodIn_of _ (by decide +kernel)) ggX8_pass_X8_seenOn
set_option maxRecDepth 20000 in
theorem ggX8_pass_X8_bits : GoodIn wsX8_pass wsX8_bits := goodIn_r _ [37] (by decide +kernel) (by decide +kernel)
set_option maxRecDepth 20000 in
theorem gX8_pass_X8_bits : GoodIn wsX8_pass (va_wsS RX8 180 yX8_bits wsX8_bits) := goodIn_app (goodIn_of _ (by decide +kernel)) ggX8_pass_X8_bits
set_option maxRecDepth 20000 in
theorem ggX8_pass_X8_copyMarks : GoodIn wsX8_pass wsX8_copyMarks := goodIn_r _ [41, 42, 1, 9, 10, 11, 7, 12, 13, 14, 15, 43, 44, 45, 46, 47, 48, 49, 50, 51, 52, 53, 54, 55, 56, 57, 58, 59, 60, 61, 62, 63, 64, 65, 66, 67, 68, 69, 70, 71, 72, 73, 74, 75, 76, 77, 78, 79, 80, 81, 82, 83] (by decide +kernel) (by decide +kernel)
set_option maxRecDepth 20000 in
theorem gX8_pass_X8_copyMarks : GoodIn wsX8_pass (wsV RX8 198 RX8 yX8_copyMarks wsX8_copyMarks) := goodIn_app (goodIn_of _ (by decide +kernel)) ggX8_pass_X8_copyMarks
theorem dX8_pass_0 : decode cX8_pass 0 = .ok (.aload_n 0, 1) := by decide +kernel
theorem dX8_pass_1 : decode cX8_pass 1 = .ok (.aload_n 0, 1) := by decide +kernel
theorem dX8_pass_2 : decode cX8_pass 2 = .ok (.getfield 28, 3) := by decide +kernel
theorem dX8_pass_5 : decode cX8_pass 5 = .ok (.bipush 11, 2) := by decide +kernel
theorem dX8_pass_7 : decode cX8_pass 7 = .ok (.iaload, 1) := by decide +kernel
theorem dX8_pass_8 : decode cX8_pass 8 = .ok (.invokevirtual 184, 3) := by decide +kernel
theorem dX8_pass_11 : decode cX8_pass 11 = .ok (.istore_n 1, 1) := by decide +kernel
theorem dX8_pass_12 : decode cX8_pass 12 = .ok (.aload_n 0, 1) := by decide +kernel
theorem dX8_pass_13 : decode cX8_pass 13 = .ok (.getfield 28, 3) := by decide +kernel
theorem dX8_pass_16 : decode cX8_pass 16 = .ok (.bipush 10, 2) := by decide +kernel
theorem dX8_pass_18 : decode cX8_pass 18 = .ok (.dup2, 1) := by decide +kernel
theorem dX8_pass_19 : decode cX8_pass 19 = .ok (.iaload, 1) := by decide +kernel
theorem dX8_pass_20 : decode cX8_pass 20 = .ok (.iload_n 1, 1) := by decide +kernel
theorem dX8_pass_21 : decode cX8_pass 21 = .ok (.ifCond .lt 9, 3) := by decide +kernel
theorem dX8_pass_24 : decode cX8_pass 24 = .ok (.iconst 1, 1) := by decide +kernel
theorem dX8_pass_25 : decode cX8_pass 25 = .ok (.iload_n 1, 1) := by decide +kernel
theorem dX8_pass_26 : decode cX8_pass 26 = .ok (.ishl, 1) := by decide +kernel
theorem dX8_pass_27 : decode cX8_pass 27 = .ok (.goto 4, 3) := by decide +kernel
theorem dX8_pass_30 : decode cX8_pass 30 = .ok (.iconst 0, 1) := by decide +kernel
theorem dX8_pass_31 : decode cX8_pass 31 = .ok (.ior, 1) := by decide +kernel
theorem dX8_pass_32 : decode cX8_pass 32 = .ok (.iastore, 1) := by decide +kernel
theorem dX8_pass_33 : decode cX8_pass 33 = .ok (.iconst 0, 1) := by decide +kernel
theorem dX8_pass_34 : decode cX8_pass 34 = .ok (.istore_n 2, 1) := by decide +kernel
theorem dX8_pass_35 : decode cX8_pass 35 = .ok (.iload_n 2, 1) := by decide +kernel
theorem dX8_pass_36 : decode cX8_pass 36 = .ok (.aload_n 0, 1) := by decide +kernel
theorem dX8_pass_37 : decode cX8_pass 37 = .ok (.getfield 28, 3) := by decide +kernel
theorem dX8_pass_40 : decode cX8_pass 40 = .ok (.bipush 9, 2) := by decide +kernel
theorem dX8_pass_42 : decode cX8_pass 42 = .ok (.iaload, 1) := by decide +kernel
theorem dX8_pass_43 : decode cX8_pass 43 = .ok (.invokestatic 180, 3) := by decide +kernel
theorem dX8_pass_46 : decode cX8_pass 46 = .ok (.if_icmp .ge 54, 3) := by decide +kernel
theorem dX8_pass_49 : decode cX8_pass 49 = .ok (.aload_n 0, 1) := by decide +kernel
theorem dX8_pass_50 : decode cX8_pass 50 = .ok (.getfield 28, 3) := by decide +kernel
theorem dX8_pass_53 : decode cX8_pass 53 = .ok (.bipush 12, 2) := by decide +kernel
theorem dX8_pass_55 : decode cX8_pass 55 = .ok (.aload_n 0, 1) := by decide +kernel
theorem dX8_pass_56 : decode cX8_pass 56 = .ok (.getfield 28, 3) := by decide +kernel
theorem dX8_pass_59 : decode cX8_pass 59 = .ok (.bipush 12, 2) := by decide +kernel
theorem dX8_pass_61 : decode cX8_pass 61 = .ok (.iaload, 1) := by decide +kernel
theorem dX8_pass_62 : decode cX8_pass 62 = .ok (.aload_n 0, 1) := by decide +kernel
theorem dX8_pass_63 : decode cX8_pass 63 = .ok (.getfield 90, 3) := by decide +kernel
theorem dX8_pass_66 : decode cX8_pass 66 = .ok (.iload_n 2, 1) := by decide +kernel
theorem dX8_pass_67 : decode cX8_pass 67 = .ok (.ishr, 1) := by decide +kernel
theorem dX8_pass_68 : decode cX8_pass 68 = .ok (.iadd, 1) := by decide +kernel
theorem dX8_pass_69 : decode cX8_pass 69 = .ok (.ldc 197, 2) := by decide +kernel
theorem dX8_pass_71 : decode cX8_pass 71 = .ok (.if_icmp .ge 20, 3) := by decide +kernel
theorem dX8_pass_74 : decode cX8_pass 74 = .ok (.aload_n 0, 1) := by decide +kernel
theorem dX8_pass_75 : decode cX8_pass 75 = .ok (.getfield 28, 3) := by decide +kernel
theorem dX8_pass_78 : decode cX8_pass 78 = .ok (.bipush 12, 2) := by decide +kernel
theorem dX8_pass_80 : decode cX8_pass 80 = .ok (.iaload, 1) := by decide +kernel
theorem dX8_pass_81 : decode cX8_pass 81 = .ok (.aload_n 0, 1) := by decide +kernel
theorem dX8_pass_82 : decode cX8_pass 82 = .ok (.getfield 90, 3) := by decide +kernel
theorem dX8_pass_85 : decode cX8_pass 85 = .ok (.iload_n 2, 1) := by decide +kernel
theorem dX8_pass_86 : decode cX8_pass 86 = .ok (.ishr, 1) := by decide +kernel
theorem dX8_pass_87 : decode cX8_pass 87 = .ok (.iadd, 1) := by decide +kernel
theorem dX8_pass_88 : decode cX8_pass 88 = .ok (.goto 5, 3) := by decide +kernel
theorem dX8_pass_91 : decode cX8_pass 91 = .ok (.ldc 197, 2) := by decide +kernel
theorem dX8_pass_93 : decode cX8_pass 93 = .ok (.iastore, 1) := by decide +kernel
theorem dX8_pass_94 : decode cX8_pass 94 = .ok (.iinc 2 1, 3) := by decide +kernel
theorem dX8_pass_97 : decode cX8_pass 97 = .ok (.goto (-62), 3) := by decide +kernel
theorem dX8_pass_100 : decode cX8_pass 100 = .ok (.aload_n 0, 1) := by decide +kernel
theorem dX8_pass_101 : decode cX8_pass 101 = .ok (.invokevirtual 198, 3) := by decide +kernel
theorem dX8_pass_104 : decode cX8_pass 104 = .ok (.aload_n 0, 1) := by decide +kernel
theorem dX8_pass_105 : decode cX8_pass 105 = .ok (.getfield 28, 3) := by decide +kernel
theorem dX8_pass_108 : decode cX8_pass 108 = .ok (.bipush 11, 2) := by decide +kernel
theorem dX8_pass_110 : decode cX8_pass 110 = .ok (.dup2, 1) := by decide +kernel
theorem dX8_pass_111 : decode cX8_pass 111 = .ok (.iaload, 1) := by decide +kernel
theorem dX8_pass_112 : decode cX8_pass 112 = .ok (.iconst 1, 1) := by decide +kernel
theorem dX8_pass_113 : decode cX8_pass 113 = .ok (.iadd, 1) := by decide +kernel
theorem dX8_pass_114 : decode cX8_pass 114 = .ok (.iastore, 1) := by decide +kernel
theorem dX8_pass_115 : decode cX8_pass 115 = .ok (.return_, 1) := by decide +kernel
set_option maxRecDepth 20000 in
theorem ggX8_daysRefused_X8_in : GoodIn wsX8_daysRefused wsX8_in := goodIn_r _ [10] (by decide +kernel) (by decide +kernel)
set_option maxRecDepth 20000 in
theorem gX8_daysRefused_X8_in : GoodIn wsX8_daysRefused (va_wsS RX8 97 yX8_in wsX8_in) := goodIn_app (goodIn_of _ (by decide +kernel)) ggX8_daysRefused_X8_in
theorem dX8_daysRefused_0 : decode cX8_daysRefused 0 = .ok (.iload_n 1, 1) := by decide +kernel
theorem dX8_daysRefused_1 : decode cX8_daysRefused 1 = .ok (.i2l, 1) := by decide +kernel
theorem dX8_daysRefused_2 : decode cX8_daysRefused 2 = .ok (.lconst 1, 1) := by decide +kernel
theorem dX8_daysRefused_3 : decode cX8_daysRefused 3 = .ok (.ldc2_w 201, 3) := by decide +kernel
theorem dX8_daysRefused_6 : decode cX8_daysRefused 6 = .ok (.invokestatic 97, 3) := by decide +kernel
theorem dX8_daysRefused_9 : decode cX8_daysRefused 9 = .ok (.ifCond .ne 6, 3) := by decide +kernel
theorem dX8_daysRefused_12 : decode cX8_daysRefused 12 = .ok (.ldc 103, 2) := by decide +kernel
theorem dX8_daysRefused_14 : decode cX8_daysRefused 14 = .ok (.ireturn, 1) := by decide +kernel
theorem dX8_daysRefused_15 : decode cX8_daysRefused 15 = .ok (.aload_n 0, 1) := by decide +kernel
theorem dX8_daysRefused_16 : decode cX8_daysRefused 16 = .ok (.getfield 90, 3) := by decide +kernel
theorem dX8_daysRefused_19 : decode cX8_daysRefused 19 = .ok (.ifCond .ne 8, 3) := by decide +kernel
theorem dX8_daysRefused_22 : decode cX8_daysRefused 22 = .ok (.ldc 203, 2) := by decide +kernel
theorem dX8_daysRefused_24 : decode cX8_daysRefused 24 = .ok (.goto 22, 3) := by decide +kernel
theorem dX8_daysRefused_27 : decode cX8_daysRefused 27 = .ok (.aload_n 0, 1) := by decide +kernel
theorem dX8_daysRefused_28 : decode cX8_daysRefused 28 = .ok (.getfield 28, 3) := by decide +kernel
theorem dX8_daysRefused_31 : decode cX8_daysRefused 31 = .ok (.bipush 11, 2) := by decide +kernel
theorem dX8_daysRefused_33 : decode cX8_daysRefused 33 = .ok (.iaload, 1) := by decide +kernel
theorem dX8_daysRefused_34 : decode cX8_daysRefused 34 = .ok (.sipush 9000, 3) := by decide +kernel
theorem dX8_daysRefused_37 : decode cX8_daysRefused 37 = .ok (.if_icmp .le 8, 3) := by decide +kernel
theorem dX8_daysRefused_40 : decode cX8_daysRefused 40 = .ok (.ldc 107, 2) := by decide +kernel
theorem dX8_daysRefused_42 : decode cX8_daysRefused 42 = .ok (.goto 4, 3) := by decide +kernel
theorem dX8_daysRefused_45 : decode cX8_daysRefused 45 = .ok (.iconst 0, 1) := by decide +kernel
theorem dX8_daysRefused_46 : decode cX8_daysRefused 46 = .ok (.ireturn, 1) := by decide +kernel
set_option maxRecDepth 20000 in
theorem ggX8_day_X8_daysRefused : GoodIn wsX8_day wsX8_daysRefused := goodIn_r _ [6, 7, 8, 9, 10, 1, 11, 12, 13, 5, 14, 67, 68, 69, 70, 71, 72, 73, 74, 75, 76, 77, 78, 79, 80, 81, 82, 83, 84, 85, 86, 87, 88, 89, 90, 91, 92, 93, 94, 95, 96, 97, 98, 99, 100, 101, 102, 103, 104] (by decide +kernel) (by decide +kernel)
set_option maxRecDepth 20000 in
theorem gX8_day_X8_daysRefused : GoodIn wsX8_day (wsV RX8 204 RX8 yX8_daysRefused wsX8_daysRefused) := goodIn_app (goodIn_of _ (by decide +kernel)) ggX8_day_X8_daysRefused
set_option maxRecDepth 20000 in
theorem ggX8_day_X8_remember : GoodIn wsX8_day wsX8_remember := goodIn_r _ [18, 19, 20, 1, 67, 68, 69, 70, 71, 72, 73, 74, 75, 76, 77, 78, 79, 80, 81, 82, 83, 84, 85, 86, 87, 88, 89, 90, 91, 92, 93, 94, 95, 96, 97, 98, 99, 100, 101, 102, 103, 104] (by decide +kernel) (by decide +kernel)
set_option maxRecDepth 20000 in
theorem gX8_day_X8_remember : GoodIn wsX8_day (wsV RX8 207 RX8 yX8_remember wsX8_remember) := goodIn_app (goodIn_of _ (by decide +kernel)) ggX8_day_X8_remember
set_option maxRecDepth 20000 in
theorem ggX8_day_X8_pass : GoodIn wsX8_day wsX8_pass := goodIn_r _ [24, 1, 9, 25, 26, 27, 28, 5, 29, 30, 31, 32, 33, 34, 35, 36, 37, 38, 39, 40, 41, 42, 43, 44, 45, 46, 47, 48, 49, 50, 51, 52, 53, 54, 55, 56, 57, 58, 59, 60, 61, 62, 63, 64, 65, 66, 67, 68, 69, 70, 71, 72, 73, 74, 75, 76, 77, 78, 79, 80, 81, 82, 83, 84, 85, 86, 87, 88, 89, 90, 91, 92, 93, 94, 95, 96, 97, 98, 99, 100, 101, 102, 103, 104] (by decide +kernel) (by decide +kernel)
set_option maxRecDepth 20000 in
theorem gX8_day_X8_pass : GoodIn wsX8_day (wsV RX8 210 RX8 yX8_pass wsX8_pass) := goodIn_app (goodIn_of _ (by decide +kernel)) ggX8_day_X8_pass
theorem dX8_day_0 : decode cX8_day 0 = .ok (.aload_n 0, 1) := by decide +kernel
theorem dX8_day_1 : decode cX8_day 1 = .ok (.iload_n 1, 1) := by decide +kernel
theorem dX8_day_2 : decode cX8_day 2 = .ok (.invokevirtual 204, 3) := by decide +kernel
theorem dX8_day_5 : decode cX8_day 5 = .ok (.istore_n 2, 1) := by decide +kernel
theorem dX8_day_6 : decode cX8_day 6 = .ok (.iload_n 2, 1) := by decide +kernel
theorem dX8_day_7 : decode cX8_day 7 = .ok (.ifCond .eq 5, 3) := by decide +kernel
theorem dX8_day_10 : decode cX8_day 10 = .ok (.iload_n 2, 1) := by decide +kernel
theorem dX8_day_11 : decode cX8_day 11 = .ok (.ireturn, 1) := by decide +kernel
