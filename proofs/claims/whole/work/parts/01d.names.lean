theorem dX11_init_144 : decode cX11_init 144 = .ok (.invokespecial 78, 3) := by decide +kernel
theorem dX11_init_147 : decode cX11_init 147 = .ok (.putfield 83, 3) := by decide +kernel
theorem dX11_init_150 : decode cX11_init 150 = .ok (.aload_n 0, 1) := by decide +kernel
theorem dX11_init_151 : decode cX11_init 151 = .ok (.new 86, 3) := by decide +kernel
theorem dX11_init_154 : decode cX11_init 154 = .ok (.dup, 1) := by decide +kernel
theorem dX11_init_155 : decode cX11_init 155 = .ok (.invokespecial 88, 3) := by decide +kernel
theorem dX11_init_158 : decode cX11_init 158 = .ok (.putfield 89, 3) := by decide +kernel
theorem dX11_init_161 : decode cX11_init 161 = .ok (.aload_n 0, 1) := by decide +kernel
theorem dX11_init_162 : decode cX11_init 162 = .ok (.bipush 6, 2) := by decide +kernel
theorem dX11_init_164 : decode cX11_init 164 = .ok (.anewarray 93, 3) := by decide +kernel
theorem dX11_init_167 : decode cX11_init 167 = .ok (.putfield 95, 3) := by decide +kernel
theorem dX11_init_170 : decode cX11_init 170 = .ok (.iconst 0, 1) := by decide +kernel
theorem dX11_init_171 : decode cX11_init 171 = .ok (.istore_n 1, 1) := by decide +kernel
theorem dX11_init_172 : decode cX11_init 172 = .ok (.iload_n 1, 1) := by decide +kernel
theorem dX11_init_173 : decode cX11_init 173 = .ok (.bipush 6, 2) := by decide +kernel
theorem dX11_init_175 : decode cX11_init 175 = .ok (.if_icmp .ge 22, 3) := by decide +kernel
theorem dX11_init_178 : decode cX11_init 178 = .ok (.aload_n 0, 1) := by decide +kernel
theorem dX11_init_179 : decode cX11_init 179 = .ok (.getfield 95, 3) := by decide +kernel
theorem dX11_init_182 : decode cX11_init 182 = .ok (.iload_n 1, 1) := by decide +kernel
theorem dX11_init_183 : decode cX11_init 183 = .ok (.new 93, 3) := by decide +kernel
theorem dX11_init_186 : decode cX11_init 186 = .ok (.dup, 1) := by decide +kernel
theorem dX11_init_187 : decode cX11_init 187 = .ok (.invokespecial 99, 3) := by decide +kernel
theorem dX11_init_190 : decode cX11_init 190 = .ok (.aastore, 1) := by decide +kernel
theorem dX11_init_191 : decode cX11_init 191 = .ok (.iinc 1 1, 3) := by decide +kernel
theorem dX11_init_194 : decode cX11_init 194 = .ok (.goto (-22), 3) := by decide +kernel
theorem dX11_init_197 : decode cX11_init 197 = .ok (.return_, 1) := by decide +kernel
set_option maxRecDepth 20000 in
theorem ggX11_mend_X8_fits : GoodIn wsX11_mend wsX8_fits := goodIn_r _ [5, 6, 7, 8, 9, 10] (by decide +kernel) (by decide +kernel)
set_option maxRecDepth 20000 in
theorem gX11_mend_X8_fits : GoodIn wsX11_mend (va_wsS RX11 100 yX8_fits wsX8_fits) := goodIn_app (goodIn_of _ (by decide +kernel)) ggX11_mend_X8_fits
set_option maxRecDepth 20000 in
theorem ggX11_mend_X8_change : GoodIn wsX11_mend wsX8_change := goodIn_r _ [14, 15, 16, 3, 4, 5, 6, 7, 8, 9, 10, 17, 18, 19, 20, 21, 22, 23, 24, 25, 26, 27, 28, 29, 47, 48, 49, 50, 51, 52] (by decide +kernel) (by decide +kernel)
set_option maxRecDepth 20000 in
theorem gX11_mend_X8_change : GoodIn wsX11_mend (wsV RX11 104 RX8 yX8_change wsX8_change) := goodIn_app (goodIn_of _ (by decide +kernel)) ggX11_mend_X8_change
theorem dX11_mend_0 : decode cX11_mend 0 = .ok (.iload_n 1, 1) := by decide +kernel
theorem dX11_mend_1 : decode cX11_mend 1 = .ok (.iload_n 2, 1) := by decide +kernel
theorem dX11_mend_2 : decode cX11_mend 2 = .ok (.invokestatic 100, 3) := by decide +kernel
theorem dX11_mend_5 : decode cX11_mend 5 = .ok (.ifCond .eq 15, 3) := by decide +kernel
theorem dX11_mend_8 : decode cX11_mend 8 = .ok (.aload_n 0, 1) := by decide +kernel
theorem dX11_mend_9 : decode cX11_mend 9 = .ok (.getfield 10, 3) := by decide +kernel
theorem dX11_mend_12 : decode cX11_mend 12 = .ok (.iload_n 1, 1) := by decide +kernel
theorem dX11_mend_13 : decode cX11_mend 13 = .ok (.iload_n 2, 1) := by decide +kernel
theorem dX11_mend_14 : decode cX11_mend 14 = .ok (.invokevirtual 104, 3) := by decide +kernel
theorem dX11_mend_17 : decode cX11_mend 17 = .ok (.goto 4, 3) := by decide +kernel
theorem dX11_mend_20 : decode cX11_mend 20 = .ok (.iconst (-1), 1) := by decide +kernel
theorem dX11_mend_21 : decode cX11_mend 21 = .ok (.ireturn, 1) := by decide +kernel
set_option maxRecDepth 20000 in
theorem ggX11_of_X8_value : GoodIn wsX11_of wsX8_value := goodIn_r _ [6, 7, 8, 9, 10, 28, 29, 30, 31, 32, 33] (by decide +kernel) (by decide +kernel)
set_option maxRecDepth 20000 in
theorem gX11_of_X8_value : GoodIn wsX11_of (wsV RX11 108 RX8 yX8_value wsX8_value) := goodIn_app (goodIn_of _ (by decide +kernel)) ggX11_of_X8_value
theorem dX11_of_0 : decode cX11_of 0 = .ok (.aload_n 0, 1) := by decide +kernel
theorem dX11_of_1 : decode cX11_of 1 = .ok (.getfield 10, 3) := by decide +kernel
theorem dX11_of_4 : decode cX11_of 4 = .ok (.iload_n 1, 1) := by decide +kernel
theorem dX11_of_5 : decode cX11_of 5 = .ok (.invokevirtual 108, 3) := by decide +kernel
theorem dX11_of_8 : decode cX11_of 8 = .ok (.ireturn, 1) := by decide +kernel
set_option maxRecDepth 20000 in
theorem ggX11_feed_X3_take : GoodIn wsX11_feed wsX3_take := goodIn_r _ [6, 7, 8, 26, 27, 28, 29, 30, 31, 32, 33, 34, 35] (by decide +kernel) (by decide +kernel)
set_option maxRecDepth 20000 in
theorem gX11_feed_X3_take : GoodIn wsX11_feed (wsV RX11 112 RX3 yX3_take wsX3_take) := goodIn_app (goodIn_of _ (by decide +kernel)) ggX11_feed_X3_take
theorem dX11_feed_0 : decode cX11_feed 0 = .ok (.iload_n 1, 1) := by decide +kernel
theorem dX11_feed_1 : decode cX11_feed 1 = .ok (.ifCond .lt 10, 3) := by decide +kernel
theorem dX11_feed_4 : decode cX11_feed 4 = .ok (.iload_n 1, 1) := by decide +kernel
theorem dX11_feed_5 : decode cX11_feed 5 = .ok (.sipush 255, 3) := by decide +kernel
theorem dX11_feed_8 : decode cX11_feed 8 = .ok (.if_icmp .le 7, 3) := by decide +kernel
theorem dX11_feed_11 : decode cX11_feed 11 = .ok (.iconst (-1), 1) := by decide +kernel
theorem dX11_feed_12 : decode cX11_feed 12 = .ok (.goto 11, 3) := by decide +kernel
theorem dX11_feed_15 : decode cX11_feed 15 = .ok (.aload_n 0, 1) := by decide +kernel
theorem dX11_feed_16 : decode cX11_feed 16 = .ok (.getfield 19, 3) := by decide +kernel
theorem dX11_feed_19 : decode cX11_feed 19 = .ok (.iload_n 1, 1) := by decide +kernel
theorem dX11_feed_20 : decode cX11_feed 20 = .ok (.invokevirtual 112, 3) := by decide +kernel
theorem dX11_feed_23 : decode cX11_feed 23 = .ok (.ireturn, 1) := by decide +kernel
set_option maxRecDepth 20000 in
theorem ggX11_law_X3_become : GoodIn wsX11_law wsX3_become := goodIn_r _ [6, 7, 8, 9, 10, 11, 12, 13, 14, 15, 16, 5, 17, 18, 19, 20, 21, 22, 23, 24, 25, 26, 27, 28, 29, 30, 31, 32, 33, 34, 35, 36, 37, 38, 39, 40, 41, 42, 43, 44, 45, 46, 47, 48, 49, 50, 51, 52, 53, 54, 55, 56, 74, 75, 76, 77, 78, 79, 80, 81, 82, 83] (by decide +kernel) (by decide +kernel)
set_option maxRecDepth 20000 in
theorem gX11_law_X3_become : GoodIn wsX11_law (wsV RX11 115 RX3 yX3_become wsX3_become) := goodIn_app (goodIn_of _ (by decide +kernel)) ggX11_law_X3_become
theorem dX11_law_0 : decode cX11_law 0 = .ok (.aload_n 0, 1) := by decide +kernel
theorem dX11_law_1 : decode cX11_law 1 = .ok (.getfield 19, 3) := by decide +kernel
theorem dX11_law_4 : decode cX11_law 4 = .ok (.invokevirtual 115, 3) := by decide +kernel
theorem dX11_law_7 : decode cX11_law 7 = .ok (.ireturn, 1) := by decide +kernel
set_option maxRecDepth 20000 in
theorem ggX11_weight_X8_steps : GoodIn wsX11_weight wsX8_steps := goodIn_r _ [7, 8, 69, 70, 71, 72, 73, 74] (by decide +kernel) (by decide +kernel)
set_option maxRecDepth 20000 in
theorem gX11_weight_X8_steps : GoodIn wsX11_weight (wsV RX11 119 RX8 yX8_steps wsX8_steps) := goodIn_app (goodIn_of _ (by decide +kernel)) ggX11_weight_X8_steps
set_option maxRecDepth 20000 in
theorem ggX11_weight_X11_within : GoodIn wsX11_weight wsX11_within := goodIn_r _ [12] (by decide +kernel) (by decide +kernel)
set_option maxRecDepth 20000 in
theorem gX11_weight_X11_within : GoodIn wsX11_weight (va_wsS RX11 122 yX11_within wsX11_within) := goodIn_app (goodIn_of _ (by decide +kernel)) ggX11_weight_X11_within
set_option maxRecDepth 20000 in
theorem ggX11_weight_X8_jars : GoodIn wsX11_weight wsX8_jars := goodIn_r _ [16, 8, 69, 70, 71, 72, 73, 74] (by decide +kernel) (by decide +kernel)
set_option maxRecDepth 20000 in
theorem gX11_weight_X8_jars : GoodIn wsX11_weight (wsV RX11 126 RX8 yX8_jars wsX8_jars) := goodIn_app (goodIn_of _ (by decide +kernel)) ggX11_weight_X8_jars
set_option maxRecDepth 20000 in
theorem ggX11_weight_X3_weightFor : GoodIn wsX11_weight wsX3_weightFor := goodIn_r _ [21, 22, 23, 24, 25, 26, 27, 28, 29, 30, 31, 32, 20, 33, 34, 35, 36, 37, 38, 39, 40, 41, 42, 43, 44, 45, 46, 47, 48, 49, 50, 51, 75, 76, 77, 78, 79, 80, 81, 82, 83, 84] (by decide +kernel) (by decide +kernel)
set_option maxRecDepth 20000 in
theorem gX11_weight_X3_weightFor : GoodIn wsX11_weight (wsV RX11 129 RX3 yX3_weightFor wsX3_weightFor) := goodIn_app (goodIn_of _ (by decide +kernel)) ggX11_weight_X3_weightFor
theorem dX11_weight_0 : decode cX11_weight 0 = .ok (.iload_n 1, 1) := by decide +kernel
theorem dX11_weight_1 : decode cX11_weight 1 = .ok (.iconst 0, 1) := by decide +kernel
theorem dX11_weight_2 : decode cX11_weight 2 = .ok (.aload_n 0, 1) := by decide +kernel
theorem dX11_weight_3 : decode cX11_weight 3 = .ok (.getfield 10, 3) := by decide +kernel
theorem dX11_weight_6 : decode cX11_weight 6 = .ok (.invokevirtual 119, 3) := by decide +kernel
theorem dX11_weight_9 : decode cX11_weight 9 = .ok (.invokestatic 122, 3) := by decide +kernel
theorem dX11_weight_12 : decode cX11_weight 12 = .ok (.ifCond .ne 5, 3) := by decide +kernel
theorem dX11_weight_15 : decode cX11_weight 15 = .ok (.iconst (-1), 1) := by decide +kernel
theorem dX11_weight_16 : decode cX11_weight 16 = .ok (.ireturn, 1) := by decide +kernel
theorem dX11_weight_17 : decode cX11_weight 17 = .ok (.aload_n 0, 1) := by decide +kernel
theorem dX11_weight_18 : decode cX11_weight 18 = .ok (.getfield 19, 3) := by decide +kernel
theorem dX11_weight_21 : decode cX11_weight 21 = .ok (.iload_n 1, 1) := by decide +kernel
theorem dX11_weight_22 : decode cX11_weight 22 = .ok (.aload_n 0, 1) := by decide +kernel
theorem dX11_weight_23 : decode cX11_weight 23 = .ok (.getfield 10, 3) := by decide +kernel
theorem dX11_weight_26 : decode cX11_weight 26 = .ok (.invokevirtual 119, 3) := by decide +kernel
theorem dX11_weight_29 : decode cX11_weight 29 = .ok (.aload_n 0, 1) := by decide +kernel
theorem dX11_weight_30 : decode cX11_weight 30 = .ok (.getfield 10, 3) := by decide +kernel
theorem dX11_weight_33 : decode cX11_weight 33 = .ok (.invokevirtual 126, 3) := by decide +kernel
theorem dX11_weight_36 : decode cX11_weight 36 = .ok (.invokevirtual 129, 3) := by decide +kernel
theorem dX11_weight_39 : decode cX11_weight 39 = .ok (.ireturn, 1) := by decide +kernel
set_option maxRecDepth 20000 in
theorem ggX11_worst_X2_prepare : GoodIn wsX11_worst wsX2_prepare := goodIn_r _ [6, 7, 8, 9, 10, 11, 5, 12, 13, 14, 15, 16, 17, 18, 19, 20, 21, 22, 23, 24, 25, 26, 27, 62, 63, 64, 65, 66] (by decide +kernel) (by decide +kernel)
set_option maxRecDepth 20000 in
theorem gX11_worst_X2_prepare : GoodIn wsX11_worst (wsV RX11 133 RX2 yX2_prepare wsX2_prepare) := goodIn_app (goodIn_of _ (by decide +kernel)) ggX11_worst_X2_prepare
set_option maxRecDepth 20000 in
theorem ggX11_worst_X11_laddered : GoodIn wsX11_worst wsX11_laddered := goodIn_r _ [32, 33, 34, 35, 31, 36, 37, 38, 39, 5, 40, 14, 13, 25, 26, 27, 41, 42, 43, 44, 15, 62, 63, 64, 65, 66] (by decide +kernel) (by decide +kernel)
set_option maxRecDepth 20000 in
theorem gX11_worst_X11_laddered : GoodIn wsX11_worst (wsV RX11 137 RX11 yX11_laddered wsX11_laddered) := goodIn_app (goodIn_of _ (by decide +kernel)) ggX11_worst_X11_laddered
theorem dX11_worst_0 : decode cX11_worst 0 = .ok (.aload_n 0, 1) := by decide +kernel
theorem dX11_worst_1 : decode cX11_worst 1 = .ok (.getfield 28, 3) := by decide +kernel
theorem dX11_worst_4 : decode cX11_worst 4 = .ok (.iconst 1, 1) := by decide +kernel
theorem dX11_worst_5 : decode cX11_worst 5 = .ok (.iconst 0, 1) := by decide +kernel
theorem dX11_worst_6 : decode cX11_worst 6 = .ok (.invokevirtual 133, 3) := by decide +kernel
theorem dX11_worst_9 : decode cX11_worst 9 = .ok (.aload_n 0, 1) := by decide +kernel
theorem dX11_worst_10 : decode cX11_worst 10 = .ok (.aload_n 0, 1) := by decide +kernel
theorem dX11_worst_11 : decode cX11_worst 11 = .ok (.getfield 28, 3) := by decide +kernel
theorem dX11_worst_14 : decode cX11_worst 14 = .ok (.iload_n 1, 1) := by decide +kernel
theorem dX11_worst_15 : decode cX11_worst 15 = .ok (.iload_n 2, 1) := by decide +kernel
theorem dX11_worst_16 : decode cX11_worst 16 = .ok (.invokevirtual 137, 3) := by decide +kernel
theorem dX11_worst_19 : decode cX11_worst 19 = .ok (.ireturn, 1) := by decide +kernel
theorem dX11_reach_0 : decode cX11_reach 0 = .ok (.iload_n 1, 1) := by decide +kernel
theorem dX11_reach_1 : decode cX11_reach 1 = .ok (.bipush 10, 2) := by decide +kernel
theorem dX11_reach_3 : decode cX11_reach 3 = .ok (.idiv, 1) := by decide +kernel
theorem dX11_reach_4 : decode cX11_reach 4 = .ok (.istore_n 2, 1) := by decide +kernel
theorem dX11_reach_5 : decode cX11_reach 5 = .ok (.iload_n 1, 1) := by decide +kernel
theorem dX11_reach_6 : decode cX11_reach 6 = .ok (.bipush 10, 2) := by decide +kernel
theorem dX11_reach_8 : decode cX11_reach 8 = .ok (.irem, 1) := by decide +kernel
theorem dX11_reach_9 : decode cX11_reach 9 = .ok (.istore_n 3, 1) := by decide +kernel
theorem dX11_reach_10 : decode cX11_reach 10 = .ok (.iload_n 1, 1) := by decide +kernel
theorem dX11_reach_11 : decode cX11_reach 11 = .ok (.ifCond .lt 15, 3) := by decide +kernel
theorem dX11_reach_14 : decode cX11_reach 14 = .ok (.iload_n 2, 1) := by decide +kernel
theorem dX11_reach_15 : decode cX11_reach 15 = .ok (.bipush 20, 2) := by decide +kernel
theorem dX11_reach_17 : decode cX11_reach 17 = .ok (.if_icmp .gt 9, 3) := by decide +kernel
theorem dX11_reach_20 : decode cX11_reach 20 = .ok (.iload_n 3, 1) := by decide +kernel
theorem dX11_reach_21 : decode cX11_reach 21 = .ok (.bipush 6, 2) := by decide +kernel
theorem dX11_reach_23 : decode cX11_reach 23 = .ok (.if_icmp .le 5, 3) := by decide +kernel
theorem dX11_reach_26 : decode cX11_reach 26 = .ok (.iconst (-1), 1) := by decide +kernel
theorem dX11_reach_27 : decode cX11_reach 27 = .ok (.ireturn, 1) := by decide +kernel
theorem dX11_reach_28 : decode cX11_reach 28 = .ok (.iconst 1, 1) := by decide +kernel
theorem dX11_reach_29 : decode cX11_reach 29 = .ok (.istore 4, 2) := by decide +kernel
theorem dX11_reach_31 : decode cX11_reach 31 = .ok (.iconst 1, 1) := by decide +kernel
theorem dX11_reach_32 : decode cX11_reach 32 = .ok (.istore 5, 2) := by decide +kernel
theorem dX11_reach_34 : decode cX11_reach 34 = .ok (.iconst 1, 1) := by decide +kernel
theorem dX11_reach_35 : decode cX11_reach 35 = .ok (.istore 6, 2) := by decide +kernel
theorem dX11_reach_37 : decode cX11_reach 37 = .ok (.iload 6, 2) := by decide +kernel
theorem dX11_reach_39 : decode cX11_reach 39 = .ok (.iload_n 3, 1) := by decide +kernel
theorem dX11_reach_40 : decode cX11_reach 40 = .ok (.if_icmp .gt 30, 3) := by decide +kernel
theorem dX11_reach_43 : decode cX11_reach 43 = .ok (.iload 4, 2) := by decide +kernel
theorem dX11_reach_45 : decode cX11_reach 45 = .ok (.iload_n 2, 1) := by decide +kernel
theorem dX11_reach_46 : decode cX11_reach 46 = .ok (.iload 6, 2) := by decide +kernel
theorem dX11_reach_48 : decode cX11_reach 48 = .ok (.isub, 1) := by decide +kernel
theorem dX11_reach_49 : decode cX11_reach 49 = .ok (.iconst 1, 1) := by decide +kernel
theorem dX11_reach_50 : decode cX11_reach 50 = .ok (.iadd, 1) := by decide +kernel
theorem dX11_reach_51 : decode cX11_reach 51 = .ok (.imul, 1) := by decide +kernel
theorem dX11_reach_52 : decode cX11_reach 52 = .ok (.iload 6, 2) := by decide +kernel
theorem dX11_reach_54 : decode cX11_reach 54 = .ok (.idiv, 1) := by decide +kernel
theorem dX11_reach_55 : decode cX11_reach 55 = .ok (.istore 4, 2) := by decide +kernel
theorem dX11_reach_57 : decode cX11_reach 57 = .ok (.iload 5, 2) := by decide +kernel
theorem dX11_reach_59 : decode cX11_reach 59 = .ok (.iload 4, 2) := by decide +kernel
theorem dX11_reach_61 : decode cX11_reach 61 = .ok (.iadd, 1) := by decide +kernel
theorem dX11_reach_62 : decode cX11_reach 62 = .ok (.istore 5, 2) := by decide +kernel
theorem dX11_reach_64 : decode cX11_reach 64 = .ok (.iinc 6 1, 3) := by decide +kernel
theorem dX11_reach_67 : decode cX11_reach 67 = .ok (.goto (-30), 3) := by decide +kernel
theorem dX11_reach_70 : decode cX11_reach 70 = .ok (.iload 5, 2) := by decide +kernel
theorem dX11_reach_72 : decode cX11_reach 72 = .ok (.ireturn, 1) := by decide +kernel
set_option maxRecDepth 20000 in
theorem ggX11_mean_X11_asksSpan : GoodIn wsX11_mean wsX11_asksSpan := goodIn_r _ [15, 3, 4, 16, 17, 18, 19, 20, 21, 22, 23, 14, 24, 25, 26, 27, 28, 29, 30, 31, 32, 151, 152, 153, 154, 155, 156, 157, 158, 159, 160, 161, 162, 163, 164, 165, 166, 167, 171, 172, 173, 174, 175, 176, 168, 169, 170] (by decide +kernel) (by decide +kernel)
set_option maxRecDepth 20000 in
theorem gX11_mean_X11_asksSpan : GoodIn wsX11_mean (wsV RX11 141 RX11 yX11_asksSpan wsX11_asksSpan) := goodIn_app (goodIn_of _ (by decide +kernel)) ggX11_mean_X11_asksSpan
set_option maxRecDepth 20000 in
theorem ggX11_mean_X11_within : GoodIn wsX11_mean wsX11_within := goodIn_r _ [24] (by decide +kernel) (by decide +kernel)
set_option maxRecDepth 20000 in
theorem gX11_mean_X11_within : GoodIn wsX11_mean (va_wsS RX11 122 yX11_within wsX11_within) := goodIn_app (goodIn_of _ (by decide +kernel)) ggX11_mean_X11_within
set_option maxRecDepth 20000 in
theorem ggX11_mean_X4_weigh : GoodIn wsX11_mean wsX4_weigh := goodIn_r _ [37, 38, 39, 40, 41, 42, 43, 17, 18, 19, 20, 21, 44, 45, 46, 47, 48, 49, 50, 51, 52, 53, 54, 55, 9, 56, 57, 8, 10, 58, 59, 60, 61, 62, 63, 64, 65, 66, 67, 68, 69, 70, 71, 72, 73, 74, 75, 76, 77, 78, 79, 80, 81, 82, 36, 83, 84, 85, 177, 178, 179, 180, 181, 182, 183, 184, 185, 186, 187, 188, 189, 190, 191, 192, 193, 194, 171, 172, 173, 174, 175, 176] (by decide +kernel) (by decide +kernel)
set_option maxRecDepth 20000 in
theorem gX11_mean_X4_weigh : GoodIn wsX11_mean (wsV RX11 144 RX4 yX4_weigh wsX4_weigh) := goodIn_app (goodIn_of _ (by decide +kernel)) ggX11_mean_X4_weigh
set_option maxRecDepth 20000 in
theorem ggX11_mean_X4_weightOf : GoodIn wsX11_mean wsX4_weightOf := goodIn_r _ [89, 90, 91, 92, 36, 93, 42, 23, 14, 24, 168, 169, 170, 187, 188, 189, 190, 191, 192, 193, 194] (by decide +kernel) (by decide +kernel)
set_option maxRecDepth 20000 in
theorem gX11_mean_X4_weightOf : GoodIn wsX11_mean (wsV RX11 148 RX4 yX4_weightOf wsX4_weightOf) := goodIn_app (goodIn_of _ (by decide +kernel)) ggX11_mean_X4_weightOf
set_option maxRecDepth 20000 in
theorem ggX11_mean_X2_prepare : GoodIn wsX11_mean wsX2_prepare := goodIn_r _ [98, 99, 100, 101, 102, 103, 97, 104, 105, 106, 107, 108, 109, 110, 111, 112, 113, 8, 9, 10, 114, 115, 116, 195, 196, 197, 198, 199] (by decide +kernel) (by decide +kernel)
set_option maxRecDepth 20000 in
theorem gX11_mean_X2_prepare : GoodIn wsX11_mean (wsV RX11 133 RX2 yX2_prepare wsX2_prepare) := goodIn_app (goodIn_of _ (by decide +kernel)) ggX11_mean_X2_prepare
set_option maxRecDepth 20000 in
theorem ggX11_mean_X7_heights : GoodIn wsX11_mean wsX7_heights := goodIn_r _ [120, 31, 30, 168, 169, 170] (by decide +kernel) (by decide +kernel)
set_option maxRecDepth 20000 in
theorem gX11_mean_X7_heights : GoodIn wsX11_mean (wsV RX11 155 RX7 yX7_heights wsX7_heights) := goodIn_app (goodIn_of _ (by decide +kernel)) ggX11_mean_X7_heights
set_option maxRecDepth 20000 in
theorem ggX11_mean_X2_cost : GoodIn wsX11_mean wsX2_cost := goodIn_r _ [124, 106, 105, 114, 115, 97, 116, 195, 196, 197, 198, 199] (by decide +kernel) (by decide +kernel)
set_option maxRecDepth 20000 in
theorem gX11_mean_X2_cost : GoodIn wsX11_mean (wsV RX11 158 RX2 yX2_cost wsX2_cost) := goodIn_app (goodIn_of _ (by decide +kernel)) ggX11_mean_X2_cost
set_option maxRecDepth 20000 in
theorem ggX11_mean_X4_cost : GoodIn wsX11_mean wsX4_cost := goodIn_r _ [128, 129, 130, 131, 132, 133, 36, 134, 84, 135, 8, 9, 10, 23, 14, 24, 136, 137, 138, 139, 140, 141, 142, 143, 144, 145, 146, 147, 42, 187, 188, 189, 190, 191, 192, 193, 194, 168, 169, 170] (by decide +kernel) (by decide +kernel)
set_option maxRecDepth 20000 in
theorem gX11_mean_X4_cost : GoodIn wsX11_mean (wsV RX11 161 RX4 yX4_cost wsX4_cost) := goodIn_app (goodIn_of _ (by decide +kernel)) ggX11_mean_X4_cost
set_option maxRecDepth 20000 in
theorem ggX11_mean_X11_commonDivisor : GoodIn wsX11_mean wsX11_commonDivisor := goodIn_r _ [150] (by decide +kernel) (by decide +kernel)
set_option maxRecDepth 20000 in
theorem gX11_mean_X11_commonDivisor : GoodIn wsX11_mean (va_wsS RX11 164 yX11_commonDivisor wsX11_commonDivisor) := goodIn_app (goodIn_of _ (by decide +kernel)) ggX11_mean_X11_commonDivisor
theorem dX11_mean_0 : decode cX11_mean 0 = .ok (.aload_n 0, 1) := by decide +kernel
theorem dX11_mean_1 : decode cX11_mean 1 = .ok (.iload_n 1, 1) := by decide +kernel
theorem dX11_mean_2 : decode cX11_mean 2 = .ok (.iload_n 2, 1) := by decide +kernel
theorem dX11_mean_3 : decode cX11_mean 3 = .ok (.invokevirtual 141, 3) := by decide +kernel
theorem dX11_mean_6 : decode cX11_mean 6 = .ok (.ifCond .eq 12, 3) := by decide +kernel
theorem dX11_mean_9 : decode cX11_mean 9 = .ok (.iload_n 3, 1) := by decide +kernel
theorem dX11_mean_10 : decode cX11_mean 10 = .ok (.iconst 0, 1) := by decide +kernel
theorem dX11_mean_11 : decode cX11_mean 11 = .ok (.iconst 1, 1) := by decide +kernel
theorem dX11_mean_12 : decode cX11_mean 12 = .ok (.invokestatic 122, 3) := by decide +kernel
theorem dX11_mean_15 : decode cX11_mean 15 = .ok (.ifCond .ne 5, 3) := by decide +kernel
theorem dX11_mean_18 : decode cX11_mean 18 = .ok (.iconst (-1), 1) := by decide +kernel
theorem dX11_mean_19 : decode cX11_mean 19 = .ok (.ireturn, 1) := by decide +kernel
theorem dX11_mean_20 : decode cX11_mean 20 = .ok (.aload_n 0, 1) := by decide +kernel
theorem dX11_mean_21 : decode cX11_mean 21 = .ok (.getfield 41, 3) := by decide +kernel
theorem dX11_mean_24 : decode cX11_mean 24 = .ok (.aload_n 0, 1) := by decide +kernel
theorem dX11_mean_25 : decode cX11_mean 25 = .ok (.getfield 19, 3) := by decide +kernel
theorem dX11_mean_28 : decode cX11_mean 28 = .ok (.aload_n 0, 1) := by decide +kernel
theorem dX11_mean_29 : decode cX11_mean 29 = .ok (.getfield 10, 3) := by decide +kernel
theorem dX11_mean_32 : decode cX11_mean 32 = .ok (.invokevirtual 144, 3) := by decide +kernel
theorem dX11_mean_35 : decode cX11_mean 35 = .ok (.aload_n 0, 1) := by decide +kernel
theorem dX11_mean_36 : decode cX11_mean 36 = .ok (.getfield 41, 3) := by decide +kernel
theorem dX11_mean_39 : decode cX11_mean 39 = .ok (.aload_n 0, 1) := by decide +kernel
theorem dX11_mean_40 : decode cX11_mean 40 = .ok (.getfield 62, 3) := by decide +kernel
theorem dX11_mean_43 : decode cX11_mean 43 = .ok (.invokevirtual 148, 3) := by decide +kernel
theorem dX11_mean_46 : decode cX11_mean 46 = .ok (.ifCond .ne 7, 3) := by decide +kernel
theorem dX11_mean_49 : decode cX11_mean 49 = .ok (.iconst 1, 1) := by decide +kernel
theorem dX11_mean_50 : decode cX11_mean 50 = .ok (.goto 4, 3) := by decide +kernel
theorem dX11_mean_53 : decode cX11_mean 53 = .ok (.iconst 0, 1) := by decide +kernel
theorem dX11_mean_54 : decode cX11_mean 54 = .ok (.istore 4, 2) := by decide +kernel
theorem dX11_mean_56 : decode cX11_mean 56 = .ok (.aload_n 0, 1) := by decide +kernel
theorem dX11_mean_57 : decode cX11_mean 57 = .ok (.getfield 35, 3) := by decide +kernel
theorem dX11_mean_60 : decode cX11_mean 60 = .ok (.iconst 1, 1) := by decide +kernel
theorem dX11_mean_61 : decode cX11_mean 61 = .ok (.iconst 0, 1) := by decide +kernel
theorem dX11_mean_62 : decode cX11_mean 62 = .ok (.invokevirtual 133, 3) := by decide +kernel
theorem dX11_mean_65 : decode cX11_mean 65 = .ok (.iload 4, 2) := by decide +kernel
theorem dX11_mean_67 : decode cX11_mean 67 = .ok (.ifCond .eq 27, 3) := by decide +kernel
theorem dX11_mean_70 : decode cX11_mean 70 = .ok (.aload_n 0, 1) := by decide +kernel
theorem dX11_mean_71 : decode cX11_mean 71 = .ok (.getfield 35, 3) := by decide +kernel
theorem dX11_mean_74 : decode cX11_mean 74 = .ok (.aload_n 0, 1) := by decide +kernel
theorem dX11_mean_75 : decode cX11_mean 75 = .ok (.getfield 62, 3) := by decide +kernel
theorem dX11_mean_78 : decode cX11_mean 78 = .ok (.getfield 152, 3) := by decide +kernel
theorem dX11_mean_81 : decode cX11_mean 81 = .ok (.aload_n 0, 1) := by decide +kernel
theorem dX11_mean_82 : decode cX11_mean 82 = .ok (.getfield 62, 3) := by decide +kernel
theorem dX11_mean_85 : decode cX11_mean 85 = .ok (.invokevirtual 155, 3) := by decide +kernel
theorem dX11_mean_88 : decode cX11_mean 88 = .ok (.invokevirtual 158, 3) := by decide +kernel
theorem dX11_mean_91 : decode cX11_mean 91 = .ok (.goto 14, 3) := by decide +kernel
theorem dX11_mean_94 : decode cX11_mean 94 = .ok (.aload_n 0, 1) := by decide +kernel
theorem dX11_mean_95 : decode cX11_mean 95 = .ok (.getfield 41, 3) := by decide +kernel
theorem dX11_mean_98 : decode cX11_mean 98 = .ok (.aload_n 0, 1) := by decide +kernel
theorem dX11_mean_99 : decode cX11_mean 99 = .ok (.getfield 62, 3) := by decide +kernel
theorem dX11_mean_102 : decode cX11_mean 102 = .ok (.invokevirtual 161, 3) := by decide +kernel
theorem dX11_mean_105 : decode cX11_mean 105 = .ok (.istore 5, 2) := by decide +kernel
theorem dX11_mean_107 : decode cX11_mean 107 = .ok (.iload 5, 2) := by decide +kernel
theorem dX11_mean_109 : decode cX11_mean 109 = .ok (.ldc 163, 2) := by decide +kernel
theorem dX11_mean_111 : decode cX11_mean 111 = .ok (.if_icmp .lt 6, 3) := by decide +kernel
theorem dX11_mean_114 : decode cX11_mean 114 = .ok (.bipush (-2), 2) := by decide +kernel
theorem dX11_mean_116 : decode cX11_mean 116 = .ok (.ireturn, 1) := by decide +kernel
theorem dX11_mean_117 : decode cX11_mean 117 = .ok (.iload 4, 2) := by decide +kernel
theorem dX11_mean_119 : decode cX11_mean 119 = .ok (.ifCond .eq 13, 3) := by decide +kernel
theorem dX11_mean_122 : decode cX11_mean 122 = .ok (.aload_n 0, 1) := by decide +kernel
theorem dX11_mean_123 : decode cX11_mean 123 = .ok (.getfield 62, 3) := by decide +kernel
theorem dX11_mean_126 : decode cX11_mean 126 = .ok (.invokevirtual 155, 3) := by decide +kernel
theorem dX11_mean_129 : decode cX11_mean 129 = .ok (.goto 14, 3) := by decide +kernel
theorem dX11_mean_132 : decode cX11_mean 132 = .ok (.aload_n 0, 1) := by decide +kernel
theorem dX11_mean_133 : decode cX11_mean 133 = .ok (.getfield 41, 3) := by decide +kernel
theorem dX11_mean_136 : decode cX11_mean 136 = .ok (.aload_n 0, 1) := by decide +kernel
theorem dX11_mean_137 : decode cX11_mean 137 = .ok (.getfield 62, 3) := by decide +kernel
theorem dX11_mean_140 : decode cX11_mean 140 = .ok (.invokevirtual 148, 3) := by decide +kernel
theorem dX11_mean_143 : decode cX11_mean 143 = .ok (.istore 6, 2) := by decide +kernel
theorem dX11_mean_145 : decode cX11_mean 145 = .ok (.iconst 1, 1) := by decide +kernel
theorem dX11_mean_146 : decode cX11_mean 146 = .ok (.iload 5, 2) := by decide +kernel
theorem dX11_mean_148 : decode cX11_mean 148 = .ok (.iload 6, 2) := by decide +kernel
theorem dX11_mean_150 : decode cX11_mean 150 = .ok (.invokestatic 164, 3) := by decide +kernel
theorem dX11_mean_153 : decode cX11_mean 153 = .ok (.invokestatic 167, 3) := by decide +kernel
theorem dX11_mean_156 : decode cX11_mean 156 = .ok (.istore 7, 2) := by decide +kernel
theorem dX11_mean_158 : decode cX11_mean 158 = .ok (.iload_n 3, 1) := by decide +kernel
theorem dX11_mean_159 : decode cX11_mean 159 = .ok (.ifCond .ne 11, 3) := by decide +kernel
theorem dX11_mean_162 : decode cX11_mean 162 = .ok (.iload 5, 2) := by decide +kernel
theorem dX11_mean_164 : decode cX11_mean 164 = .ok (.iload 7, 2) := by decide +kernel
theorem dX11_mean_166 : decode cX11_mean 166 = .ok (.idiv, 1) := by decide +kernel
theorem dX11_mean_167 : decode cX11_mean 167 = .ok (.goto 8, 3) := by decide +kernel
theorem dX11_mean_170 : decode cX11_mean 170 = .ok (.iload 6, 2) := by decide +kernel
theorem dX11_mean_172 : decode cX11_mean 172 = .ok (.iload 7, 2) := by decide +kernel
theorem dX11_mean_174 : decode cX11_mean 174 = .ok (.idiv, 1) := by decide +kernel
theorem dX11_mean_175 : decode cX11_mean 175 = .ok (.ireturn, 1) := by decide +kernel
set_option maxRecDepth 20000 in
theorem ggX11_meanFirst_X11_asksSpan : GoodIn wsX11_meanFirst wsX11_asksSpan := goodIn_r _ [9, 4, 1, 10, 11, 12, 13, 14, 15, 16, 17, 8, 18, 19, 20, 21, 22, 23, 24, 25, 26, 154, 155, 156, 157, 158, 159, 160, 161, 162, 163, 164, 165, 166, 167, 168, 169, 170, 174, 175, 176, 177, 178, 179, 171, 172, 173] (by decide +kernel) (by decide +kernel)
set_option maxRecDepth 20000 in
theorem gX11_meanFirst_X11_asksSpan : GoodIn wsX11_meanFirst (wsV RX11 141 RX11 yX11_asksSpan wsX11_asksSpan) := goodIn_app (goodIn_of _ (by decide +kernel)) ggX11_meanFirst_X11_asksSpan
set_option maxRecDepth 20000 in
theorem ggX11_meanFirst_X7_isSure : GoodIn wsX11_meanFirst wsX7_isSure := goodIn_r _ [30, 24, 25, 171, 172, 173] (by decide +kernel) (by decide +kernel)
set_option maxRecDepth 20000 in
theorem gX11_meanFirst_X7_isSure : GoodIn wsX11_meanFirst (wsV RX11 172 RX7 yX7_isSure wsX7_isSure) := goodIn_app (goodIn_of _ (by decide +kernel)) ggX11_meanFirst_X7_isSure
set_option maxRecDepth 20000 in
theorem ggX11_meanFirst_X4_weigh : GoodIn wsX11_meanFirst wsX4_weigh := goodIn_r _ [35, 36, 37, 38, 39, 40, 41, 11, 12, 13, 14, 15, 42, 43, 44, 45, 46, 47, 48, 49, 50, 51, 52, 53, 54, 55, 56, 57, 58, 59, 60, 61, 62, 63, 64, 65, 66, 67, 68, 69, 70, 71, 72, 73, 74, 75, 76, 77, 78, 79, 80, 81, 82, 83, 34, 84, 85, 86, 180, 181, 182, 183, 184, 185, 186, 187, 188, 189, 190, 191, 192, 193, 194, 195, 196, 197, 174, 175, 176, 177, 178, 179] (by decide +kernel) (by decide +kernel)
set_option maxRecDepth 20000 in
theorem gX11_meanFirst_X4_weigh : GoodIn wsX11_meanFirst (wsV RX11 144 RX4 yX4_weigh wsX4_weigh) := goodIn_app (goodIn_of _ (by decide +kernel)) ggX11_meanFirst_X4_weigh
set_option maxRecDepth 20000 in
theorem ggX11_meanFirst_X11_firstByMean : GoodIn wsX11_meanFirst wsX11_firstByMean := goodIn_r _ [90, 2, 91, 92, 93, 94, 34, 95, 96, 97, 98, 99, 40, 17, 8, 18, 100, 101, 102, 103, 104, 105, 106, 107, 108, 109, 110, 111, 112, 113, 114, 115, 116, 117, 118, 119, 57, 54, 58, 120, 121, 122, 123, 124, 125, 22, 126, 25, 24, 127, 128, 129, 130, 131, 132, 133, 134, 135, 136, 137, 138, 139, 85, 140, 141, 142, 143, 144, 145, 146, 147, 148, 149, 150, 151, 152, 153, 154, 155, 156, 157, 158, 159, 160, 161, 162, 163, 164, 165, 166, 167, 168, 169, 170, 171, 172, 173, 190, 191, 192, 193, 194, 195, 196, 197, 198, 199, 200, 201, 202] (by decide +kernel) (by decide +kernel)
set_option maxRecDepth 20000 in
theorem gX11_meanFirst_X11_firstByMean : GoodIn wsX11_meanFirst (wsV RX11 176 RX11 yX11_firstByMean wsX11_firstByMean) := goodIn_app (goodIn_of _ (by decide +kernel)) ggX11_meanFirst_X11_firstByMean
theorem dX11_meanFirst_0 : decode cX11_meanFirst 0 = .ok (.aload_n 0, 1) := by decide +kernel
theorem dX11_meanFirst_1 : decode cX11_meanFirst 1 = .ok (.iload_n 1, 1) := by decide +kernel
theorem dX11_meanFirst_2 : decode cX11_meanFirst 2 = .ok (.iload_n 2, 1) := by decide +kernel
theorem dX11_meanFirst_3 : decode cX11_meanFirst 3 = .ok (.invokevirtual 141, 3) := by decide +kernel
theorem dX11_meanFirst_6 : decode cX11_meanFirst 6 = .ok (.ifCond .ne 5, 3) := by decide +kernel
theorem dX11_meanFirst_9 : decode cX11_meanFirst 9 = .ok (.iconst (-1), 1) := by decide +kernel
theorem dX11_meanFirst_10 : decode cX11_meanFirst 10 = .ok (.ireturn, 1) := by decide +kernel
theorem dX11_meanFirst_11 : decode cX11_meanFirst 11 = .ok (.aload_n 0, 1) := by decide +kernel
theorem dX11_meanFirst_12 : decode cX11_meanFirst 12 = .ok (.getfield 62, 3) := by decide +kernel
theorem dX11_meanFirst_15 : decode cX11_meanFirst 15 = .ok (.invokevirtual 172, 3) := by decide +kernel
theorem dX11_meanFirst_18 : decode cX11_meanFirst 18 = .ok (.ifCond .ne 13, 3) := by decide +kernel
theorem dX11_meanFirst_21 : decode cX11_meanFirst 21 = .ok (.aload_n 0, 1) := by decide +kernel
theorem dX11_meanFirst_22 : decode cX11_meanFirst 22 = .ok (.getfield 62, 3) := by decide +kernel
theorem dX11_meanFirst_25 : decode cX11_meanFirst 25 = .ok (.getfield 152, 3) := by decide +kernel
theorem dX11_meanFirst_28 : decode cX11_meanFirst 28 = .ok (.ifCond .ne 6, 3) := by decide +kernel
theorem dX11_meanFirst_31 : decode cX11_meanFirst 31 = .ok (.bipush (-2), 2) := by decide +kernel
theorem dX11_meanFirst_33 : decode cX11_meanFirst 33 = .ok (.ireturn, 1) := by decide +kernel
theorem dX11_meanFirst_34 : decode cX11_meanFirst 34 = .ok (.aload_n 0, 1) := by decide +kernel
theorem dX11_meanFirst_35 : decode cX11_meanFirst 35 = .ok (.getfield 41, 3) := by decide +kernel
theorem dX11_meanFirst_38 : decode cX11_meanFirst 38 = .ok (.aload_n 0, 1) := by decide +kernel
theorem dX11_meanFirst_39 : decode cX11_meanFirst 39 = .ok (.getfield 19, 3) := by decide +kernel
theorem dX11_meanFirst_42 : decode cX11_meanFirst 42 = .ok (.aload_n 0, 1) := by decide +kernel
theorem dX11_meanFirst_43 : decode cX11_meanFirst 43 = .ok (.getfield 10, 3) := by decide +kernel
theorem dX11_meanFirst_46 : decode cX11_meanFirst 46 = .ok (.invokevirtual 144, 3) := by decide +kernel
theorem dX11_meanFirst_49 : decode cX11_meanFirst 49 = .ok (.aload_n 0, 1) := by decide +kernel
theorem dX11_meanFirst_50 : decode cX11_meanFirst 50 = .ok (.aload_n 0, 1) := by decide +kernel
theorem dX11_meanFirst_51 : decode cX11_meanFirst 51 = .ok (.getfield 62, 3) := by decide +kernel
theorem dX11_meanFirst_54 : decode cX11_meanFirst 54 = .ok (.invokevirtual 176, 3) := by decide +kernel
theorem dX11_meanFirst_57 : decode cX11_meanFirst 57 = .ok (.ireturn, 1) := by decide +kernel
set_option maxRecDepth 20000 in
theorem ggX11_trodden_X8_steps : GoodIn wsX11_trodden wsX8_steps := goodIn_r _ [8, 9, 87, 88, 89, 90, 91, 92] (by decide +kernel) (by decide +kernel)
set_option maxRecDepth 20000 in
theorem gX11_trodden_X8_steps : GoodIn wsX11_trodden (wsV RX11 119 RX8 yX8_steps wsX8_steps) := goodIn_app (goodIn_of _ (by decide +kernel)) ggX11_trodden_X8_steps
set_option maxRecDepth 20000 in
theorem ggX11_trodden_X11_asksSpan : GoodIn wsX11_trodden wsX11_asksSpan := goodIn_r _ [14, 1, 2, 4, 5, 6, 7, 8, 9, 15, 16, 13, 17, 18, 19, 20, 21, 22, 23, 24, 25, 70, 71, 72, 73, 74, 75, 76, 77, 78, 79, 80, 81, 82, 83, 84, 85, 86, 87, 88, 89, 90, 91, 92, 93, 94, 95] (by decide +kernel) (by decide +kernel)
set_option maxRecDepth 20000 in
theorem gX11_trodden_X11_asksSpan : GoodIn wsX11_trodden (wsV RX11 141 RX11 yX11_asksSpan wsX11_asksSpan) := goodIn_app (goodIn_of _ (by decide +kernel)) ggX11_trodden_X11_asksSpan
set_option maxRecDepth 20000 in
theorem ggX11_trodden_X11_within : GoodIn wsX11_trodden wsX11_within := goodIn_r _ [17] (by decide +kernel) (by decide +kernel)
set_option maxRecDepth 20000 in
theorem gX11_trodden_X11_within : GoodIn wsX11_trodden (va_wsS RX11 122 yX11_within wsX11_within) := goodIn_app (goodIn_of _ (by decide +kernel)) ggX11_trodden_X11_within
set_option maxRecDepth 20000 in
theorem ggX11_trodden_X7_isSure : GoodIn wsX11_trodden wsX7_isSure := goodIn_r _ [29, 23, 24, 93, 94, 95] (by decide +kernel) (by decide +kernel)
set_option maxRecDepth 20000 in
theorem gX11_trodden_X7_isSure : GoodIn wsX11_trodden (wsV RX11 172 RX7 yX7_isSure wsX7_isSure) := goodIn_app (goodIn_of _ (by decide +kernel)) ggX11_trodden_X7_isSure
set_option maxRecDepth 20000 in
theorem ggX11_trodden_X9_prepare : GoodIn wsX11_trodden wsX9_prepare := goodIn_r _ [34, 35, 36, 37, 38, 33, 39, 40, 41, 42, 43, 44, 45, 46, 47, 48, 49, 50, 51, 52, 53, 16, 13, 17, 96, 97, 98] (by decide +kernel) (by decide +kernel)
set_option maxRecDepth 20000 in
theorem gX11_trodden_X9_prepare : GoodIn wsX11_trodden (wsV RX11 179 RX9 yX9_prepare wsX9_prepare) := goodIn_app (goodIn_of _ (by decide +kernel)) ggX11_trodden_X9_prepare
set_option maxRecDepth 20000 in
theorem ggX11_trodden_X9_firstFrom : GoodIn wsX11_trodden wsX9_firstFrom := goodIn_r _ [57, 40, 58, 59, 60, 33, 61, 62, 63, 43, 64, 65, 66, 67, 21, 68, 24, 23, 47, 48, 49, 50, 46, 45, 51, 52, 53, 41, 42, 44, 16, 13, 17, 93, 94, 95, 96, 97, 98] (by decide +kernel) (by decide +kernel)
set_option maxRecDepth 20000 in
theorem gX11_trodden_X9_firstFrom : GoodIn wsX11_trodden (wsV RX11 181 RX9 yX9_firstFrom wsX9_firstFrom) := goodIn_app (goodIn_of _ (by decide +kernel)) ggX11_trodden_X9_firstFrom
set_option maxRecDepth 20000 in
theorem ggX11_trodden_X9_costFrom : GoodIn wsX11_trodden wsX9_costFrom := goodIn_r _ [61, 62, 63, 43, 64, 65, 66, 67, 21, 68, 24, 23, 47, 48, 49, 33, 50, 40, 46, 45, 51, 52, 53, 41, 42, 44, 16, 13, 17, 93, 94, 95, 96, 97, 98] (by decide +kernel) (by decide +kernel)
set_option maxRecDepth 20000 in
theorem gX11_trodden_X9_costFrom : GoodIn wsX11_trodden (wsV RX11 185 RX9 yX9_costFrom wsX9_costFrom) := goodIn_app (goodIn_of _ (by decide +kernel)) ggX11_trodden_X9_costFrom
theorem dX11_trodden_0 : decode cX11_trodden 0 = .ok (.iload_n 2, 1) := by decide +kernel
theorem dX11_trodden_1 : decode cX11_trodden 1 = .ok (.bipush 10, 2) := by decide +kernel
theorem dX11_trodden_3 : decode cX11_trodden 3 = .ok (.idiv, 1) := by decide +kernel
theorem dX11_trodden_4 : decode cX11_trodden 4 = .ok (.istore 4, 2) := by decide +kernel
theorem dX11_trodden_6 : decode cX11_trodden 6 = .ok (.iload_n 2, 1) := by decide +kernel
theorem dX11_trodden_7 : decode cX11_trodden 7 = .ok (.ifCond .lt 36, 3) := by decide +kernel
theorem dX11_trodden_10 : decode cX11_trodden 10 = .ok (.iload 4, 2) := by decide +kernel
theorem dX11_trodden_12 : decode cX11_trodden 12 = .ok (.aload_n 0, 1) := by decide +kernel
theorem dX11_trodden_13 : decode cX11_trodden 13 = .ok (.getfield 10, 3) := by decide +kernel
theorem dX11_trodden_16 : decode cX11_trodden 16 = .ok (.invokevirtual 119, 3) := by decide +kernel
theorem dX11_trodden_19 : decode cX11_trodden 19 = .ok (.if_icmp .gt 24, 3) := by decide +kernel
theorem dX11_trodden_22 : decode cX11_trodden 22 = .ok (.aload_n 0, 1) := by decide +kernel
theorem dX11_trodden_23 : decode cX11_trodden 23 = .ok (.iload_n 1, 1) := by decide +kernel
theorem dX11_trodden_24 : decode cX11_trodden 24 = .ok (.iload_n 2, 1) := by decide +kernel
theorem dX11_trodden_25 : decode cX11_trodden 25 = .ok (.bipush 10, 2) := by decide +kernel
theorem dX11_trodden_27 : decode cX11_trodden 27 = .ok (.irem, 1) := by decide +kernel
theorem dX11_trodden_28 : decode cX11_trodden 28 = .ok (.invokevirtual 141, 3) := by decide +kernel
theorem dX11_trodden_31 : decode cX11_trodden 31 = .ok (.ifCond .eq 12, 3) := by decide +kernel
theorem dX11_trodden_34 : decode cX11_trodden 34 = .ok (.iload_n 3, 1) := by decide +kernel
theorem dX11_trodden_35 : decode cX11_trodden 35 = .ok (.iconst 0, 1) := by decide +kernel
theorem dX11_trodden_36 : decode cX11_trodden 36 = .ok (.iconst 1, 1) := by decide +kernel
theorem dX11_trodden_37 : decode cX11_trodden 37 = .ok (.invokestatic 122, 3) := by decide +kernel
theorem dX11_trodden_40 : decode cX11_trodden 40 = .ok (.ifCond .ne 5, 3) := by decide +kernel
theorem dX11_trodden_43 : decode cX11_trodden 43 = .ok (.iconst (-1), 1) := by decide +kernel
theorem dX11_trodden_44 : decode cX11_trodden 44 = .ok (.ireturn, 1) := by decide +kernel
theorem dX11_trodden_45 : decode cX11_trodden 45 = .ok (.aload_n 0, 1) := by decide +kernel
theorem dX11_trodden_46 : decode cX11_trodden 46 = .ok (.getfield 10, 3) := by decide +kernel
theorem dX11_trodden_49 : decode cX11_trodden 49 = .ok (.invokevirtual 119, 3) := by decide +kernel
theorem dX11_trodden_52 : decode cX11_trodden 52 = .ok (.bipush 24, 2) := by decide +kernel
theorem dX11_trodden_54 : decode cX11_trodden 54 = .ok (.if_icmp .le 6, 3) := by decide +kernel
theorem dX11_trodden_57 : decode cX11_trodden 57 = .ok (.bipush (-5), 2) := by decide +kernel
theorem dX11_trodden_59 : decode cX11_trodden 59 = .ok (.ireturn, 1) := by decide +kernel
theorem dX11_trodden_60 : decode cX11_trodden 60 = .ok (.aload_n 0, 1) := by decide +kernel
theorem dX11_trodden_61 : decode cX11_trodden 61 = .ok (.getfield 62, 3) := by decide +kernel
theorem dX11_trodden_64 : decode cX11_trodden 64 = .ok (.invokevirtual 172, 3) := by decide +kernel
theorem dX11_trodden_67 : decode cX11_trodden 67 = .ok (.ifCond .eq 14, 3) := by decide +kernel
theorem dX11_trodden_70 : decode cX11_trodden 70 = .ok (.iload_n 3, 1) := by decide +kernel
theorem dX11_trodden_71 : decode cX11_trodden 71 = .ok (.ifCond .ne 7, 3) := by decide +kernel
theorem dX11_trodden_74 : decode cX11_trodden 74 = .ok (.iconst 0, 1) := by decide +kernel
theorem dX11_trodden_75 : decode cX11_trodden 75 = .ok (.goto 5, 3) := by decide +kernel
theorem dX11_trodden_78 : decode cX11_trodden 78 = .ok (.bipush (-2), 2) := by decide +kernel
theorem dX11_trodden_80 : decode cX11_trodden 80 = .ok (.ireturn, 1) := by decide +kernel
theorem dX11_trodden_81 : decode cX11_trodden 81 = .ok (.aload_n 0, 1) := by decide +kernel
theorem dX11_trodden_82 : decode cX11_trodden 82 = .ok (.getfield 48, 3) := by decide +kernel
theorem dX11_trodden_85 : decode cX11_trodden 85 = .ok (.invokevirtual 179, 3) := by decide +kernel
theorem dX11_trodden_88 : decode cX11_trodden 88 = .ok (.aload_n 0, 1) := by decide +kernel
theorem dX11_trodden_89 : decode cX11_trodden 89 = .ok (.getfield 48, 3) := by decide +kernel
theorem dX11_trodden_92 : decode cX11_trodden 92 = .ok (.aload_n 0, 1) := by decide +kernel
theorem dX11_trodden_93 : decode cX11_trodden 93 = .ok (.getfield 62, 3) := by decide +kernel
theorem dX11_trodden_96 : decode cX11_trodden 96 = .ok (.iload 4, 2) := by decide +kernel
theorem dX11_trodden_98 : decode cX11_trodden 98 = .ok (.invokevirtual 181, 3) := by decide +kernel
theorem dX11_trodden_101 : decode cX11_trodden 101 = .ok (.istore 5, 2) := by decide +kernel
theorem dX11_trodden_103 : decode cX11_trodden 103 = .ok (.iload 5, 2) := by decide +kernel
theorem dX11_trodden_105 : decode cX11_trodden 105 = .ok (.ifCond .ne 6, 3) := by decide +kernel
theorem dX11_trodden_108 : decode cX11_trodden 108 = .ok (.bipush (-2), 2) := by decide +kernel
theorem dX11_trodden_110 : decode cX11_trodden 110 = .ok (.ireturn, 1) := by decide +kernel
theorem dX11_trodden_111 : decode cX11_trodden 111 = .ok (.iload_n 3, 1) := by decide +kernel
theorem dX11_trodden_112 : decode cX11_trodden 112 = .ok (.ifCond .ne 21, 3) := by decide +kernel
theorem dX11_trodden_115 : decode cX11_trodden 115 = .ok (.aload_n 0, 1) := by decide +kernel
theorem dX11_trodden_116 : decode cX11_trodden 116 = .ok (.getfield 48, 3) := by decide +kernel
theorem dX11_trodden_119 : decode cX11_trodden 119 = .ok (.aload_n 0, 1) := by decide +kernel
theorem dX11_trodden_120 : decode cX11_trodden 120 = .ok (.getfield 62, 3) := by decide +kernel
theorem dX11_trodden_123 : decode cX11_trodden 123 = .ok (.iload 4, 2) := by decide +kernel
theorem dX11_trodden_125 : decode cX11_trodden 125 = .ok (.iload 5, 2) := by decide +kernel
theorem dX11_trodden_127 : decode cX11_trodden 127 = .ok (.invokevirtual 185, 3) := by decide +kernel
theorem dX11_trodden_130 : decode cX11_trodden 130 = .ok (.goto 5, 3) := by decide +kernel
theorem dX11_trodden_133 : decode cX11_trodden 133 = .ok (.iload 5, 2) := by decide +kernel
theorem dX11_trodden_135 : decode cX11_trodden 135 = .ok (.ireturn, 1) := by decide +kernel
set_option maxRecDepth 20000 in
theorem ggX11_price_X8_value : GoodIn wsX11_price wsX8_value := goodIn_r _ [7, 8, 9, 10, 11, 69, 70, 71, 72, 73, 74] (by decide +kernel) (by decide +kernel)
set_option maxRecDepth 20000 in
theorem gX11_price_X8_value : GoodIn wsX11_price (wsV RX11 108 RX8 yX8_value wsX8_value) := goodIn_app (goodIn_of _ (by decide +kernel)) ggX11_price_X8_value
set_option maxRecDepth 20000 in
theorem ggX11_price_X2_prepare : GoodIn wsX11_price wsX2_prepare := goodIn_r _ [16, 17, 18, 19, 20, 21, 15, 22, 23, 24, 25, 26, 27, 28, 29, 30, 31, 32, 33, 34, 35, 36, 37, 75, 76, 77, 78, 79] (by decide +kernel) (by decide +kernel)
set_option maxRecDepth 20000 in
theorem gX11_price_X2_prepare : GoodIn wsX11_price (wsV RX11 133 RX2 yX2_prepare wsX2_prepare) := goodIn_app (goodIn_of _ (by decide +kernel)) ggX11_price_X2_prepare
set_option maxRecDepth 20000 in
theorem ggX11_price_X11_laddered : GoodIn wsX11_price wsX11_laddered := goodIn_r _ [41, 42, 43, 9, 10, 11, 44, 45, 46, 15, 47, 24, 23, 35, 36, 37, 48, 49, 50, 51, 25, 75, 76, 77, 78, 79] (by decide +kernel) (by decide +kernel)
set_option maxRecDepth 20000 in
theorem gX11_price_X11_laddered : GoodIn wsX11_price (wsV RX11 137 RX11 yX11_laddered wsX11_laddered) := goodIn_app (goodIn_of _ (by decide +kernel)) ggX11_price_X11_laddered
theorem dX11_price_0 : decode cX11_price 0 = .ok (.aload_n 0, 1) := by decide +kernel
theorem dX11_price_1 : decode cX11_price 1 = .ok (.getfield 32, 3) := by decide +kernel
theorem dX11_price_4 : decode cX11_price 4 = .ok (.aload_n 0, 1) := by decide +kernel
theorem dX11_price_5 : decode cX11_price 5 = .ok (.getfield 10, 3) := by decide +kernel
theorem dX11_price_8 : decode cX11_price 8 = .ok (.iconst 2, 1) := by decide +kernel
theorem dX11_price_9 : decode cX11_price 9 = .ok (.invokevirtual 108, 3) := by decide +kernel
theorem dX11_price_12 : decode cX11_price 12 = .ok (.aload_n 0, 1) := by decide +kernel
theorem dX11_price_13 : decode cX11_price 13 = .ok (.getfield 10, 3) := by decide +kernel
theorem dX11_price_16 : decode cX11_price 16 = .ok (.iconst 3, 1) := by decide +kernel
theorem dX11_price_17 : decode cX11_price 17 = .ok (.invokevirtual 108, 3) := by decide +kernel
theorem dX11_price_20 : decode cX11_price 20 = .ok (.invokevirtual 133, 3) := by decide +kernel
theorem dX11_price_23 : decode cX11_price 23 = .ok (.aload_n 0, 1) := by decide +kernel
theorem dX11_price_24 : decode cX11_price 24 = .ok (.aload_n 0, 1) := by decide +kernel
theorem dX11_price_25 : decode cX11_price 25 = .ok (.getfield 32, 3) := by decide +kernel
theorem dX11_price_28 : decode cX11_price 28 = .ok (.iload_n 1, 1) := by decide +kernel
theorem dX11_price_29 : decode cX11_price 29 = .ok (.iload_n 2, 1) := by decide +kernel
theorem dX11_price_30 : decode cX11_price 30 = .ok (.invokevirtual 137, 3) := by decide +kernel
theorem dX11_price_33 : decode cX11_price 33 = .ok (.ireturn, 1) := by decide +kernel
set_option maxRecDepth 20000 in
theorem ggX11_two_X11_within : GoodIn wsX11_two wsX11_within := goodIn_r _ [6] (by decide +kernel) (by decide +kernel)
set_option maxRecDepth 20000 in
theorem gX11_two_X11_within : GoodIn wsX11_two (va_wsS RX11 122 yX11_within wsX11_within) := goodIn_app (goodIn_of _ (by decide +kernel)) ggX11_two_X11_within
set_option maxRecDepth 20000 in
theorem ggX11_two_X5_prepare : GoodIn wsX11_two wsX5_prepare := goodIn_r _ [11, 12, 13, 14, 15, 10, 16, 17, 18, 19, 20, 21, 22, 23, 24, 25, 26, 27, 28, 29, 30, 31, 32, 33, 4, 5, 6, 53, 54] (by decide +kernel) (by decide +kernel)
set_option maxRecDepth 20000 in
theorem gX11_two_X5_prepare : GoodIn wsX11_two (wsV RX11 189 RX5 yX5_prepare wsX5_prepare) := goodIn_app (goodIn_of _ (by decide +kernel)) ggX11_two_X5_prepare
set_option maxRecDepth 20000 in
theorem ggX11_two_X5_need : GoodIn wsX11_two wsX5_need := goodIn_r _ [33, 26, 21, 4, 5, 6, 53, 54] (by decide +kernel) (by decide +kernel)
set_option maxRecDepth 20000 in
theorem gX11_two_X5_need : GoodIn wsX11_two (wsV RX11 190 RX5 yX5_need wsX5_need) := goodIn_app (goodIn_of _ (by decide +kernel)) ggX11_two_X5_need
set_option maxRecDepth 20000 in
theorem ggX11_two_X5_bestIn : GoodIn wsX11_two wsX5_bestIn := goodIn_r _ [25, 26, 27, 28, 19, 29, 17, 18, 20, 30, 31, 32, 10, 33, 21, 4, 5, 6, 53, 54] (by decide +kernel) (by decide +kernel)
set_option maxRecDepth 20000 in
theorem gX11_two_X5_bestIn : GoodIn wsX11_two (wsV RX11 193 RX5 yX5_bestIn wsX5_bestIn) := goodIn_app (goodIn_of _ (by decide +kernel)) ggX11_two_X5_bestIn
theorem dX11_two_0 : decode cX11_two 0 = .ok (.iload_n 1, 1) := by decide +kernel
theorem dX11_two_1 : decode cX11_two 1 = .ok (.bipush 100, 2) := by decide +kernel
theorem dX11_two_3 : decode cX11_two 3 = .ok (.idiv, 1) := by decide +kernel
theorem dX11_two_4 : decode cX11_two 4 = .ok (.istore 4, 2) := by decide +kernel
theorem dX11_two_6 : decode cX11_two 6 = .ok (.iload_n 1, 1) := by decide +kernel
theorem dX11_two_7 : decode cX11_two 7 = .ok (.bipush 100, 2) := by decide +kernel
theorem dX11_two_9 : decode cX11_two 9 = .ok (.irem, 1) := by decide +kernel
theorem dX11_two_10 : decode cX11_two 10 = .ok (.istore 5, 2) := by decide +kernel
theorem dX11_two_12 : decode cX11_two 12 = .ok (.iload_n 1, 1) := by decide +kernel
theorem dX11_two_13 : decode cX11_two 13 = .ok (.ifCond .lt 44, 3) := by decide +kernel
theorem dX11_two_16 : decode cX11_two 16 = .ok (.iload 4, 2) := by decide +kernel
theorem dX11_two_18 : decode cX11_two 18 = .ok (.iconst 1, 1) := by decide +kernel
theorem dX11_two_19 : decode cX11_two 19 = .ok (.bipush 31, 2) := by decide +kernel
theorem dX11_two_21 : decode cX11_two 21 = .ok (.invokestatic 122, 3) := by decide +kernel
theorem dX11_two_24 : decode cX11_two 24 = .ok (.ifCond .eq 33, 3) := by decide +kernel
theorem dX11_two_27 : decode cX11_two 27 = .ok (.iload 5, 2) := by decide +kernel
theorem dX11_two_29 : decode cX11_two 29 = .ok (.iconst 1, 1) := by decide +kernel
theorem dX11_two_30 : decode cX11_two 30 = .ok (.bipush 31, 2) := by decide +kernel
theorem dX11_two_32 : decode cX11_two 32 = .ok (.invokestatic 122, 3) := by decide +kernel
theorem dX11_two_35 : decode cX11_two 35 = .ok (.ifCond .eq 22, 3) := by decide +kernel
theorem dX11_two_38 : decode cX11_two 38 = .ok (.iload_n 2, 1) := by decide +kernel
theorem dX11_two_39 : decode cX11_two 39 = .ok (.iconst 0, 1) := by decide +kernel
theorem dX11_two_40 : decode cX11_two 40 = .ok (.bipush 6, 2) := by decide +kernel
theorem dX11_two_42 : decode cX11_two 42 = .ok (.invokestatic 122, 3) := by decide +kernel
theorem dX11_two_45 : decode cX11_two 45 = .ok (.ifCond .eq 12, 3) := by decide +kernel
theorem dX11_two_48 : decode cX11_two 48 = .ok (.iload_n 3, 1) := by decide +kernel
theorem dX11_two_49 : decode cX11_two 49 = .ok (.iconst 0, 1) := by decide +kernel
theorem dX11_two_50 : decode cX11_two 50 = .ok (.iconst 1, 1) := by decide +kernel
theorem dX11_two_51 : decode cX11_two 51 = .ok (.invokestatic 122, 3) := by decide +kernel
theorem dX11_two_54 : decode cX11_two 54 = .ok (.ifCond .ne 5, 3) := by decide +kernel
theorem dX11_two_57 : decode cX11_two 57 = .ok (.iconst (-1), 1) := by decide +kernel
theorem dX11_two_58 : decode cX11_two 58 = .ok (.ireturn, 1) := by decide +kernel
theorem dX11_two_59 : decode cX11_two 59 = .ok (.aload_n 0, 1) := by decide +kernel
theorem dX11_two_60 : decode cX11_two 60 = .ok (.getfield 55, 3) := by decide +kernel
theorem dX11_two_63 : decode cX11_two 63 = .ok (.invokevirtual 189, 3) := by decide +kernel
theorem dX11_two_66 : decode cX11_two 66 = .ok (.aload_n 0, 1) := by decide +kernel
theorem dX11_two_67 : decode cX11_two 67 = .ok (.getfield 55, 3) := by decide +kernel
theorem dX11_two_70 : decode cX11_two 70 = .ok (.iload_n 2, 1) := by decide +kernel
theorem dX11_two_71 : decode cX11_two 71 = .ok (.iload 4, 2) := by decide +kernel
theorem dX11_two_73 : decode cX11_two 73 = .ok (.iload 5, 2) := by decide +kernel
theorem dX11_two_75 : decode cX11_two 75 = .ok (.invokevirtual 190, 3) := by decide +kernel
theorem dX11_two_78 : decode cX11_two 78 = .ok (.istore 6, 2) := by decide +kernel
theorem dX11_two_80 : decode cX11_two 80 = .ok (.iload 6, 2) := by decide +kernel
theorem dX11_two_82 : decode cX11_two 82 = .ok (.ldc 163, 2) := by decide +kernel
theorem dX11_two_84 : decode cX11_two 84 = .ok (.if_icmp .ge 13, 3) := by decide +kernel
theorem dX11_two_87 : decode cX11_two 87 = .ok (.iload_n 3, 1) := by decide +kernel
theorem dX11_two_88 : decode cX11_two 88 = .ok (.iconst 1, 1) := by decide +kernel
theorem dX11_two_89 : decode cX11_two 89 = .ok (.if_icmp .ne 11, 3) := by decide +kernel
theorem dX11_two_92 : decode cX11_two 92 = .ok (.iload 6, 2) := by decide +kernel
theorem dX11_two_94 : decode cX11_two 94 = .ok (.ifCond .ne 6, 3) := by decide +kernel
theorem dX11_two_97 : decode cX11_two 97 = .ok (.bipush (-2), 2) := by decide +kernel
theorem dX11_two_99 : decode cX11_two 99 = .ok (.ireturn, 1) := by decide +kernel
theorem dX11_two_100 : decode cX11_two 100 = .ok (.iload_n 3, 1) := by decide +kernel
theorem dX11_two_101 : decode cX11_two 101 = .ok (.ifCond .ne 6, 3) := by decide +kernel
theorem dX11_two_104 : decode cX11_two 104 = .ok (.iload 6, 2) := by decide +kernel
theorem dX11_two_106 : decode cX11_two 106 = .ok (.ireturn, 1) := by decide +kernel
theorem dX11_two_107 : decode cX11_two 107 = .ok (.aload_n 0, 1) := by decide +kernel
theorem dX11_two_108 : decode cX11_two 108 = .ok (.getfield 55, 3) := by decide +kernel
theorem dX11_two_111 : decode cX11_two 111 = .ok (.iload_n 2, 1) := by decide +kernel
theorem dX11_two_112 : decode cX11_two 112 = .ok (.iload 4, 2) := by decide +kernel
theorem dX11_two_114 : decode cX11_two 114 = .ok (.iload 5, 2) := by decide +kernel
theorem dX11_two_116 : decode cX11_two 116 = .ok (.invokevirtual 193, 3) := by decide +kernel
theorem dX11_two_119 : decode cX11_two 119 = .ok (.iload 6, 2) := by decide +kernel
theorem dX11_two_121 : decode cX11_two 121 = .ok (.if_icmp .ne 7, 3) := by decide +kernel
theorem dX11_two_124 : decode cX11_two 124 = .ok (.iconst 0, 1) := by decide +kernel
theorem dX11_two_125 : decode cX11_two 125 = .ok (.goto 4, 3) := by decide +kernel
theorem dX11_two_128 : decode cX11_two 128 = .ok (.iconst 1, 1) := by decide +kernel
theorem dX11_two_129 : decode cX11_two 129 = .ok (.ireturn, 1) := by decide +kernel
set_option maxRecDepth 20000 in
theorem ggX11_ruled_X11_within : GoodIn wsX11_ruled wsX11_within := goodIn_r _ [6] (by decide +kernel) (by decide +kernel)
set_option maxRecDepth 20000 in
theorem gX11_ruled_X11_within : GoodIn wsX11_ruled (va_wsS RX11 122 yX11_within wsX11_within) := goodIn_app (goodIn_of _ (by decide +kernel)) ggX11_ruled_X11_within
set_option maxRecDepth 20000 in
theorem ggX11_ruled_X8_steps : GoodIn wsX11_ruled wsX8_steps := goodIn_r _ [11, 12, 196, 197, 198, 199, 200, 201] (by decide +kernel) (by decide +kernel)
set_option maxRecDepth 20000 in
theorem gX11_ruled_X8_steps : GoodIn wsX11_ruled (wsV RX11 119 RX8 yX8_steps wsX8_steps) := goodIn_app (goodIn_of _ (by decide +kernel)) ggX11_ruled_X8_steps
set_option maxRecDepth 20000 in
theorem ggX11_ruled_X11_walks : GoodIn wsX11_ruled wsX11_walks := goodIn_r _ [16, 17, 18, 19, 1, 2, 20, 21, 22, 23, 24, 25, 26, 27, 28, 29, 30, 31, 32, 33, 34, 35, 36, 37, 38, 39, 40, 41, 42, 43, 44, 45, 46, 47, 48, 49, 50, 51, 52, 53, 54, 55, 56, 8, 9, 10, 11, 12, 57, 58, 59, 60, 61, 62, 63, 64, 65, 66, 67, 68, 69, 70, 71, 72, 73, 74, 75, 76, 77, 78, 79, 80, 81, 82, 83, 84, 85, 86, 87, 88, 89, 90, 91, 92, 93, 94, 95, 96, 97, 98, 7, 99, 100, 101, 102, 103, 104, 105, 106, 107, 108, 109, 110, 111, 112, 113, 114, 115, 116, 117, 118, 119, 120, 121, 122, 123, 124, 125, 126, 127, 128, 129, 130, 5, 131, 132, 133, 134, 135, 136, 137, 138, 139, 140, 4, 6, 141, 142, 143, 144, 145, 146, 147, 148, 149, 150, 151, 152, 153, 154, 155, 156, 157, 158, 159, 160, 161, 162, 163, 164, 165, 166, 167, 168, 169, 170, 171, 172, 173, 174, 175, 176, 177, 178, 179, 180, 181, 182, 183, 184, 185, 186, 187, 188, 189, 190, 191, 192, 193, 194, 195, 202, 203, 204, 205, 206, 207, 208, 209, 210, 211, 212, 213, 214, 215, 216, 217, 218, 219, 220, 221, 222, 223, 224, 225, 226, 227, 196, 197, 198, 199, 200, 201] (by decide +kernel) (by decide +kernel)
set_option maxRecDepth 20000 in
theorem gX11_ruled_X11_walks : GoodIn wsX11_ruled (wsV RX11 196 RX11 yX11_walks wsX11_walks) := goodIn_app (goodIn_of _ (by decide +kernel)) ggX11_ruled_X11_walks
theorem dX11_ruled_0 : decode cX11_ruled 0 = .ok (.iload_n 1, 1) := by decide +kernel
theorem dX11_ruled_1 : decode cX11_ruled 1 = .ok (.iconst 0, 1) := by decide +kernel
theorem dX11_ruled_2 : decode cX11_ruled 2 = .ok (.iconst 1, 1) := by decide +kernel
theorem dX11_ruled_3 : decode cX11_ruled 3 = .ok (.invokestatic 122, 3) := by decide +kernel
theorem dX11_ruled_6 : decode cX11_ruled 6 = .ok (.ifCond .eq 27, 3) := by decide +kernel
theorem dX11_ruled_9 : decode cX11_ruled 9 = .ok (.iload_n 2, 1) := by decide +kernel
theorem dX11_ruled_10 : decode cX11_ruled 10 = .ok (.iconst 0, 1) := by decide +kernel
theorem dX11_ruled_11 : decode cX11_ruled 11 = .ok (.aload_n 0, 1) := by decide +kernel
theorem dX11_ruled_12 : decode cX11_ruled 12 = .ok (.getfield 10, 3) := by decide +kernel
theorem dX11_ruled_15 : decode cX11_ruled 15 = .ok (.invokevirtual 119, 3) := by decide +kernel
theorem dX11_ruled_18 : decode cX11_ruled 18 = .ok (.invokestatic 122, 3) := by decide +kernel
theorem dX11_ruled_21 : decode cX11_ruled 21 = .ok (.ifCond .eq 12, 3) := by decide +kernel
theorem dX11_ruled_24 : decode cX11_ruled 24 = .ok (.iload_n 3, 1) := by decide +kernel
theorem dX11_ruled_25 : decode cX11_ruled 25 = .ok (.iconst 0, 1) := by decide +kernel
theorem dX11_ruled_26 : decode cX11_ruled 26 = .ok (.iconst 1, 1) := by decide +kernel
theorem dX11_ruled_27 : decode cX11_ruled 27 = .ok (.invokestatic 122, 3) := by decide +kernel
theorem dX11_ruled_30 : decode cX11_ruled 30 = .ok (.ifCond .ne 5, 3) := by decide +kernel
theorem dX11_ruled_33 : decode cX11_ruled 33 = .ok (.iconst (-1), 1) := by decide +kernel
theorem dX11_ruled_34 : decode cX11_ruled 34 = .ok (.ireturn, 1) := by decide +kernel
theorem dX11_ruled_35 : decode cX11_ruled 35 = .ok (.aload_n 0, 1) := by decide +kernel
theorem dX11_ruled_36 : decode cX11_ruled 36 = .ok (.iload_n 1, 1) := by decide +kernel
theorem dX11_ruled_37 : decode cX11_ruled 37 = .ok (.iload_n 2, 1) := by decide +kernel
theorem dX11_ruled_38 : decode cX11_ruled 38 = .ok (.invokevirtual 196, 3) := by decide +kernel
theorem dX11_ruled_41 : decode cX11_ruled 41 = .ok (.ifCond .ne 6, 3) := by decide +kernel
theorem dX11_ruled_44 : decode cX11_ruled 44 = .ok (.bipush (-2), 2) := by decide +kernel
theorem dX11_ruled_46 : decode cX11_ruled 46 = .ok (.ireturn, 1) := by decide +kernel
theorem dX11_ruled_47 : decode cX11_ruled 47 = .ok (.iload_n 3, 1) := by decide +kernel
theorem dX11_ruled_48 : decode cX11_ruled 48 = .ok (.ifCond .ne 13, 3) := by decide +kernel
theorem dX11_ruled_51 : decode cX11_ruled 51 = .ok (.aload_n 0, 1) := by decide +kernel
theorem dX11_ruled_52 : decode cX11_ruled 52 = .ok (.getfield 69, 3) := by decide +kernel
theorem dX11_ruled_55 : decode cX11_ruled 55 = .ok (.getfield 199, 3) := by decide +kernel
theorem dX11_ruled_58 : decode cX11_ruled 58 = .ok (.goto 10, 3) := by decide +kernel
theorem dX11_ruled_61 : decode cX11_ruled 61 = .ok (.aload_n 0, 1) := by decide +kernel
theorem dX11_ruled_62 : decode cX11_ruled 62 = .ok (.getfield 69, 3) := by decide +kernel
theorem dX11_ruled_65 : decode cX11_ruled 65 = .ok (.getfield 202, 3) := by decide +kernel
theorem dX11_ruled_68 : decode cX11_ruled 68 = .ok (.ireturn, 1) := by decide +kernel
set_option maxRecDepth 20000 in
theorem ggX11_step_X11_within : GoodIn wsX11_step wsX11_within := goodIn_r _ [6] (by decide +kernel) (by decide +kernel)
set_option maxRecDepth 20000 in
theorem gX11_step_X11_within : GoodIn wsX11_step (va_wsS RX11 122 yX11_within wsX11_within) := goodIn_app (goodIn_of _ (by decide +kernel)) ggX11_step_X11_within
set_option maxRecDepth 20000 in
theorem ggX11_step_X8_steps : GoodIn wsX11_step wsX8_steps := goodIn_r _ [11, 12, 196, 197, 198, 199, 200, 201] (by decide +kernel) (by decide +kernel)
set_option maxRecDepth 20000 in
theorem gX11_step_X8_steps : GoodIn wsX11_step (wsV RX11 119 RX8 yX8_steps wsX8_steps) := goodIn_app (goodIn_of _ (by decide +kernel)) ggX11_step_X8_steps
set_option maxRecDepth 20000 in
theorem ggX11_step_X11_walks : GoodIn wsX11_step wsX11_walks := goodIn_r _ [16, 17, 18, 19, 1, 2, 20, 21, 22, 23, 24, 25, 26, 27, 28, 29, 30, 31, 32, 33, 34, 35, 36, 37, 38, 39, 40, 41, 42, 43, 44, 45, 46, 47, 48, 49, 50, 51, 52, 53, 54, 55, 56, 8, 9, 10, 11, 12, 57, 58, 59, 60, 61, 62, 63, 64, 65, 66, 67, 68, 69, 70, 71, 72, 73, 74, 75, 76, 77, 78, 79, 80, 81, 82, 83, 84, 85, 86, 87, 88, 89, 90, 91, 92, 93, 94, 95, 96, 97, 98, 7, 99, 100, 101, 102, 103, 104, 105, 106, 107, 108, 109, 110, 111, 112, 113, 114, 115, 116, 117, 118, 119, 120, 121, 122, 123, 124, 125, 126, 127, 128, 129, 130, 5, 131, 132, 133, 134, 135, 136, 137, 138, 139, 140, 4, 6, 141, 142, 143, 144, 145, 146, 147, 148, 149, 150, 151, 152, 153, 154, 155, 156, 157, 158, 159, 160, 161, 162, 163, 164, 165, 166, 167, 168, 169, 170, 171, 172, 173, 174, 179, 180, 181, 182, 183, 184, 185, 186, 187, 188, 189, 190, 191, 192, 193, 194, 195, 202, 203, 204, 205, 206, 207, 208, 209, 210, 211, 212, 213, 214, 215, 216, 217, 218, 219, 220, 221, 222, 223, 224, 225, 226, 227, 228, 229, 230, 231, 196, 197, 198, 199, 200, 201] (by decide +kernel) (by decide +kernel)
set_option maxRecDepth 20000 in
theorem gX11_step_X11_walks : GoodIn wsX11_step (wsV RX11 196 RX11 yX11_walks wsX11_walks) := goodIn_app (goodIn_of _ (by decide +kernel)) ggX11_step_X11_walks
set_option maxRecDepth 20000 in
theorem ggX11_step_X10_stepAt : GoodIn wsX11_step wsX10_stepAt := goodIn_r _ [178, 106, 168, 202, 203, 204, 205] (by decide +kernel) (by decide +kernel)
set_option maxRecDepth 20000 in
theorem gX11_step_X10_stepAt : GoodIn wsX11_step (wsV RX11 205 RX10 yX10_stepAt wsX10_stepAt) := goodIn_app (goodIn_of _ (by decide +kernel)) ggX11_step_X10_stepAt
theorem dX11_step_0 : decode cX11_step 0 = .ok (.iload_n 1, 1) := by decide +kernel
theorem dX11_step_1 : decode cX11_step 1 = .ok (.iconst 0, 1) := by decide +kernel
theorem dX11_step_2 : decode cX11_step 2 = .ok (.iconst 1, 1) := by decide +kernel
theorem dX11_step_3 : decode cX11_step 3 = .ok (.invokestatic 122, 3) := by decide +kernel
theorem dX11_step_6 : decode cX11_step 6 = .ok (.ifCond .eq 22, 3) := by decide +kernel
theorem dX11_step_9 : decode cX11_step 9 = .ok (.iload_n 2, 1) := by decide +kernel
theorem dX11_step_10 : decode cX11_step 10 = .ok (.iconst 0, 1) := by decide +kernel
theorem dX11_step_11 : decode cX11_step 11 = .ok (.aload_n 0, 1) := by decide +kernel
theorem dX11_step_12 : decode cX11_step 12 = .ok (.getfield 10, 3) := by decide +kernel
theorem dX11_step_15 : decode cX11_step 15 = .ok (.invokevirtual 119, 3) := by decide +kernel
theorem dX11_step_18 : decode cX11_step 18 = .ok (.invokestatic 122, 3) := by decide +kernel
theorem dX11_step_21 : decode cX11_step 21 = .ok (.ifCond .eq 7, 3) := by decide +kernel
theorem dX11_step_24 : decode cX11_step 24 = .ok (.iload_n 3, 1) := by decide +kernel
theorem dX11_step_25 : decode cX11_step 25 = .ok (.ifCond .ge 5, 3) := by decide +kernel
theorem dX11_step_28 : decode cX11_step 28 = .ok (.iconst (-1), 1) := by decide +kernel
theorem dX11_step_29 : decode cX11_step 29 = .ok (.ireturn, 1) := by decide +kernel
theorem dX11_step_30 : decode cX11_step 30 = .ok (.aload_n 0, 1) := by decide +kernel
theorem dX11_step_31 : decode cX11_step 31 = .ok (.iload_n 1, 1) := by decide +kernel
theorem dX11_step_32 : decode cX11_step 32 = .ok (.iload_n 2, 1) := by decide +kernel
theorem dX11_step_33 : decode cX11_step 33 = .ok (.invokevirtual 196, 3) := by decide +kernel
theorem dX11_step_36 : decode cX11_step 36 = .ok (.ifCond .eq 14, 3) := by decide +kernel
theorem dX11_step_39 : decode cX11_step 39 = .ok (.aload_n 0, 1) := by decide +kernel
theorem dX11_step_40 : decode cX11_step 40 = .ok (.getfield 69, 3) := by decide +kernel
theorem dX11_step_43 : decode cX11_step 43 = .ok (.iload_n 3, 1) := by decide +kernel
theorem dX11_step_44 : decode cX11_step 44 = .ok (.invokevirtual 205, 3) := by decide +kernel
theorem dX11_step_47 : decode cX11_step 47 = .ok (.goto 5, 3) := by decide +kernel
theorem dX11_step_50 : decode cX11_step 50 = .ok (.bipush (-2), 2) := by decide +kernel
theorem dX11_step_52 : decode cX11_step 52 = .ok (.ireturn, 1) := by decide +kernel
set_option maxRecDepth 20000 in
theorem ggX11_shards_X11_within : GoodIn wsX11_shards wsX11_within := goodIn_r _ [8] (by decide +kernel) (by decide +kernel)
set_option maxRecDepth 20000 in
theorem gX11_shards_X11_within : GoodIn wsX11_shards (va_wsS RX11 122 yX11_within wsX11_within) := goodIn_app (goodIn_of _ (by decide +kernel)) ggX11_shards_X11_within
set_option maxRecDepth 20000 in
theorem ggX11_shards_X8_steps : GoodIn wsX11_shards wsX8_steps := goodIn_r _ [13, 14, 198, 199, 200, 201, 202, 203] (by decide +kernel) (by decide +kernel)
set_option maxRecDepth 20000 in
theorem gX11_shards_X8_steps : GoodIn wsX11_shards (wsV RX11 119 RX8 yX8_steps wsX8_steps) := goodIn_app (goodIn_of _ (by decide +kernel)) ggX11_shards_X8_steps
set_option maxRecDepth 20000 in
theorem ggX11_shards_X11_walks : GoodIn wsX11_shards wsX11_walks := goodIn_r _ [18, 19, 20, 21, 2, 4, 22, 23, 24, 25, 26, 27, 28, 29, 30, 31, 32, 33, 34, 35, 36, 37, 38, 39, 40, 41, 42, 43, 44, 45, 46, 47, 48, 49, 50, 51, 52, 53, 54, 55, 56, 57, 58, 10, 11, 12, 13, 14, 59, 60, 61, 62, 63, 64, 65, 66, 67, 68, 69, 70, 71, 72, 73, 74, 75, 76, 77, 78, 79, 80, 81, 82, 83, 84, 85, 86, 87, 88, 89, 90, 91, 92, 93, 94, 95, 96, 97, 98, 99, 100, 9, 101, 102, 103, 104, 105, 106, 107, 108, 109, 110, 111, 112, 113, 114, 115, 116, 117, 118, 119, 120, 121, 122, 123, 124, 125, 126, 127, 128, 129, 130, 131, 132, 7, 133, 134, 135, 136, 137, 138, 139, 140, 141, 142, 6, 8, 143, 144, 145, 146, 147, 148, 149, 150, 151, 152, 153, 154, 155, 156, 157, 158, 159, 160, 161, 162, 163, 164, 165, 166, 167, 168, 169, 170, 171, 172, 173, 174, 175, 176, 177, 178, 179, 180, 181, 182, 183, 184, 185, 186, 187, 188, 189, 190, 191, 192, 193, 194, 195, 196, 197, 204, 205, 206, 207, 208, 209, 210, 211, 212, 213, 214, 215, 216, 217, 218, 219, 220, 221, 222, 223, 224, 225, 226, 227, 228, 229, 198, 199, 200, 201, 202, 203] (by decide +kernel) (by decide +kernel)
set_option maxRecDepth 20000 in
theorem gX11_shards_X11_walks : GoodIn wsX11_shards (wsV RX11 196 RX11 yX11_walks wsX11_walks) := goodIn_app (goodIn_of _ (by decide +kernel)) ggX11_shards_X11_walks
theorem dX11_shards_0 : decode cX11_shards 0 = .ok (.iload_n 1, 1) := by decide +kernel
theorem dX11_shards_1 : decode cX11_shards 1 = .ok (.iconst 0, 1) := by decide +kernel
theorem dX11_shards_2 : decode cX11_shards 2 = .ok (.iconst 1, 1) := by decide +kernel
theorem dX11_shards_3 : decode cX11_shards 3 = .ok (.invokestatic 122, 3) := by decide +kernel
theorem dX11_shards_6 : decode cX11_shards 6 = .ok (.ifCond .eq 7, 3) := by decide +kernel
theorem dX11_shards_9 : decode cX11_shards 9 = .ok (.iload_n 2, 1) := by decide +kernel
theorem dX11_shards_10 : decode cX11_shards 10 = .ok (.ifCond .ge 7, 3) := by decide +kernel
theorem dX11_shards_13 : decode cX11_shards 13 = .ok (.ldc2_w 210, 3) := by decide +kernel
theorem dX11_shards_16 : decode cX11_shards 16 = .ok (.lreturn, 1) := by decide +kernel
theorem dX11_shards_17 : decode cX11_shards 17 = .ok (.lconst 0, 1) := by decide +kernel
theorem dX11_shards_18 : decode cX11_shards 18 = .ok (.lstore_n 3, 1) := by decide +kernel
theorem dX11_shards_19 : decode cX11_shards 19 = .ok (.iconst 0, 1) := by decide +kernel
theorem dX11_shards_20 : decode cX11_shards 20 = .ok (.istore 5, 2) := by decide +kernel
theorem dX11_shards_22 : decode cX11_shards 22 = .ok (.iload 5, 2) := by decide +kernel
theorem dX11_shards_24 : decode cX11_shards 24 = .ok (.aload_n 0, 1) := by decide +kernel
theorem dX11_shards_25 : decode cX11_shards 25 = .ok (.getfield 10, 3) := by decide +kernel
theorem dX11_shards_28 : decode cX11_shards 28 = .ok (.invokevirtual 119, 3) := by decide +kernel
theorem dX11_shards_31 : decode cX11_shards 31 = .ok (.if_icmp .gt 58, 3) := by decide +kernel
theorem dX11_shards_34 : decode cX11_shards 34 = .ok (.aload_n 0, 1) := by decide +kernel
theorem dX11_shards_35 : decode cX11_shards 35 = .ok (.iload_n 1, 1) := by decide +kernel
theorem dX11_shards_36 : decode cX11_shards 36 = .ok (.iload 5, 2) := by decide +kernel
theorem dX11_shards_38 : decode cX11_shards 38 = .ok (.invokevirtual 196, 3) := by decide +kernel
theorem dX11_shards_41 : decode cX11_shards 41 = .ok (.ifCond .ne 7, 3) := by decide +kernel
theorem dX11_shards_44 : decode cX11_shards 44 = .ok (.ldc2_w 212, 3) := by decide +kernel
theorem dX11_shards_47 : decode cX11_shards 47 = .ok (.lreturn, 1) := by decide +kernel
theorem dX11_shards_48 : decode cX11_shards 48 = .ok (.aload_n 0, 1) := by decide +kernel
theorem dX11_shards_49 : decode cX11_shards 49 = .ok (.getfield 69, 3) := by decide +kernel
theorem dX11_shards_52 : decode cX11_shards 52 = .ok (.getfield 199, 3) := by decide +kernel
theorem dX11_shards_55 : decode cX11_shards 55 = .ok (.iload_n 2, 1) := by decide +kernel
theorem dX11_shards_56 : decode cX11_shards 56 = .ok (.bipush 10, 2) := by decide +kernel
theorem dX11_shards_58 : decode cX11_shards 58 = .ok (.idiv, 1) := by decide +kernel
theorem dX11_shards_59 : decode cX11_shards 59 = .ok (.if_icmp .ne 24, 3) := by decide +kernel
theorem dX11_shards_62 : decode cX11_shards 62 = .ok (.aload_n 0, 1) := by decide +kernel
theorem dX11_shards_63 : decode cX11_shards 63 = .ok (.getfield 69, 3) := by decide +kernel
theorem dX11_shards_66 : decode cX11_shards 66 = .ok (.getfield 202, 3) := by decide +kernel
theorem dX11_shards_69 : decode cX11_shards 69 = .ok (.iload_n 2, 1) := by decide +kernel
theorem dX11_shards_70 : decode cX11_shards 70 = .ok (.bipush 10, 2) := by decide +kernel
theorem dX11_shards_72 : decode cX11_shards 72 = .ok (.irem, 1) := by decide +kernel
theorem dX11_shards_73 : decode cX11_shards 73 = .ok (.if_icmp .ne 10, 3) := by decide +kernel
theorem dX11_shards_76 : decode cX11_shards 76 = .ok (.lload_n 3, 1) := by decide +kernel
theorem dX11_shards_77 : decode cX11_shards 77 = .ok (.lconst 1, 1) := by decide +kernel
theorem dX11_shards_78 : decode cX11_shards 78 = .ok (.iload 5, 2) := by decide +kernel
theorem dX11_shards_80 : decode cX11_shards 80 = .ok (.lshl, 1) := by decide +kernel
theorem dX11_shards_81 : decode cX11_shards 81 = .ok (.lor, 1) := by decide +kernel
theorem dX11_shards_82 : decode cX11_shards 82 = .ok (.lstore_n 3, 1) := by decide +kernel
theorem dX11_shards_83 : decode cX11_shards 83 = .ok (.iinc 5 1, 3) := by decide +kernel
theorem dX11_shards_86 : decode cX11_shards 86 = .ok (.goto (-64), 3) := by decide +kernel
theorem dX11_shards_89 : decode cX11_shards 89 = .ok (.lload_n 3, 1) := by decide +kernel
theorem dX11_shards_90 : decode cX11_shards 90 = .ok (.lreturn, 1) := by decide +kernel
set_option maxRecDepth 20000 in
theorem ggX11_judge_X11_refusesBytes : GoodIn wsX11_judge wsX11_refusesBytes := goodIn_r _ [6, 1, 7, 8, 5, 9, 10, 11, 12, 13, 14, 15, 16, 17, 18, 19, 20, 21, 22, 23, 108, 109, 110, 111, 112, 113, 114, 115, 116, 117, 118, 119, 120, 121, 122, 123, 124, 125, 126, 127, 128] (by decide +kernel) (by decide +kernel)
set_option maxRecDepth 20000 in
theorem gX11_judge_X11_refusesBytes : GoodIn wsX11_judge (wsV RX11 214 RX11 yX11_refusesBytes wsX11_refusesBytes) := goodIn_app (goodIn_of _ (by decide +kernel)) ggX11_judge_X11_refusesBytes
set_option maxRecDepth 20000 in
theorem ggX11_judge_X11_listen : GoodIn wsX11_judge wsX11_listen := goodIn_r _ [27, 28, 29, 30, 31, 32, 33, 34, 35, 36, 37, 38, 39, 40, 41, 42, 43, 44, 45, 46, 47, 48, 49, 50, 51, 16, 52, 53, 54, 55, 56, 57, 5, 58, 10, 11, 12, 59, 60, 61, 62, 63, 64, 65, 66, 67, 68, 69, 70, 71, 72, 73, 74, 75, 76, 77, 78, 79, 80, 81, 82, 83, 84, 85, 86, 87, 88, 89, 90, 91, 92, 93, 94, 95, 96, 97, 98, 99, 100, 101, 102, 103, 104, 105, 106, 107, 108, 109, 110, 111, 112, 113, 114, 115, 116, 117, 118, 119, 120, 121, 122, 123, 124, 125, 126, 127, 128, 129, 130, 131, 132, 133, 134, 135, 136, 137, 138, 139, 140, 141, 142] (by decide +kernel) (by decide +kernel)
set_option maxRecDepth 20000 in
theorem gX11_judge_X11_listen : GoodIn wsX11_judge (wsV RX11 217 RX11 yX11_listen wsX11_listen) := goodIn_app (goodIn_of _ (by decide +kernel)) ggX11_judge_X11_listen
theorem dX11_judge_0 : decode cX11_judge 0 = .ok (.aload_n 0, 1) := by decide +kernel
theorem dX11_judge_1 : decode cX11_judge 1 = .ok (.iload_n 1, 1) := by decide +kernel
theorem dX11_judge_2 : decode cX11_judge 2 = .ok (.invokevirtual 214, 3) := by decide +kernel
theorem dX11_judge_5 : decode cX11_judge 5 = .ok (.istore_n 2, 1) := by decide +kernel
theorem dX11_judge_6 : decode cX11_judge 6 = .ok (.iload_n 2, 1) := by decide +kernel
theorem dX11_judge_7 : decode cX11_judge 7 = .ok (.ifCond .eq 7, 3) := by decide +kernel
theorem dX11_judge_10 : decode cX11_judge 10 = .ok (.iload_n 2, 1) := by decide +kernel
theorem dX11_judge_11 : decode cX11_judge 11 = .ok (.goto 13, 3) := by decide +kernel
theorem dX11_judge_14 : decode cX11_judge 14 = .ok (.aload_n 0, 1) := by decide +kernel
theorem dX11_judge_15 : decode cX11_judge 15 = .ok (.aload_n 0, 1) := by decide +kernel
theorem dX11_judge_16 : decode cX11_judge 16 = .ok (.getfield 95, 3) := by decide +kernel
theorem dX11_judge_19 : decode cX11_judge 19 = .ok (.iload_n 1, 1) := by decide +kernel
theorem dX11_judge_20 : decode cX11_judge 20 = .ok (.aaload, 1) := by decide +kernel
theorem dX11_judge_21 : decode cX11_judge 21 = .ok (.invokevirtual 217, 3) := by decide +kernel
theorem dX11_judge_24 : decode cX11_judge 24 = .ok (.ireturn, 1) := by decide +kernel
set_option maxRecDepth 20000 in
theorem ggX11_left_X11_within : GoodIn wsX11_left wsX11_within := goodIn_r _ [6] (by decide +kernel) (by decide +kernel)
set_option maxRecDepth 20000 in
theorem gX11_left_X11_within : GoodIn wsX11_left (va_wsS RX11 122 yX11_within wsX11_within) := goodIn_app (goodIn_of _ (by decide +kernel)) ggX11_left_X11_within
set_option maxRecDepth 20000 in
theorem ggX11_left_X11_refusesBytes : GoodIn wsX11_left wsX11_refusesBytes := goodIn_r _ [10, 1, 11, 12, 5, 13, 3, 4, 6, 14, 15, 16, 17, 18, 19, 20, 21, 22, 23, 24, 108, 109, 110, 111, 112, 113, 114, 115, 116, 117, 118, 119, 120, 121, 122, 123, 124, 128, 129, 130, 131] (by decide +kernel) (by decide +kernel)
set_option maxRecDepth 20000 in
theorem gX11_left_X11_refusesBytes : GoodIn wsX11_left (wsV RX11 214 RX11 yX11_refusesBytes wsX11_refusesBytes) := goodIn_app (goodIn_of _ (by decide +kernel)) ggX11_left_X11_refusesBytes
set_option maxRecDepth 20000 in
theorem ggX11_left_X11_listen : GoodIn wsX11_left wsX11_listen := goodIn_r _ [28, 2, 29, 30, 31, 32, 33, 34, 35, 36, 37, 38, 39, 40, 41, 42, 43, 44, 45, 46, 47, 48, 49, 50, 51, 17, 52, 53, 54, 55, 56, 57, 5, 58, 3, 4, 6, 59, 60, 61, 62, 63, 64, 65, 66, 67, 68, 69, 70, 71, 72, 73, 74, 75, 76, 77, 78, 79, 80, 81, 82, 83, 84, 85, 86, 87, 88, 89, 90, 91, 92, 93, 94, 95, 96, 97, 98, 99, 100, 101, 102, 103, 104, 105, 106, 107, 108, 109, 110, 111, 112, 113, 114, 115, 116, 117, 118, 119, 120, 121, 122, 123, 124, 128, 129, 130, 131, 132, 133, 134, 135, 136, 137, 125, 126, 127, 138, 139, 140, 141, 142] (by decide +kernel) (by decide +kernel)
set_option maxRecDepth 20000 in
theorem gX11_left_X11_listen : GoodIn wsX11_left (wsV RX11 217 RX11 yX11_listen wsX11_listen) := goodIn_app (goodIn_of _ (by decide +kernel)) ggX11_left_X11_listen
theorem dX11_left_0 : decode cX11_left 0 = .ok (.iload_n 2, 1) := by decide +kernel
theorem dX11_left_1 : decode cX11_left 1 = .ok (.iconst 0, 1) := by decide +kernel
theorem dX11_left_2 : decode cX11_left 2 = .ok (.iconst 2, 1) := by decide +kernel
theorem dX11_left_3 : decode cX11_left 3 = .ok (.invokestatic 122, 3) := by decide +kernel
theorem dX11_left_6 : decode cX11_left 6 = .ok (.ifCond .ne 5, 3) := by decide +kernel
theorem dX11_left_9 : decode cX11_left 9 = .ok (.iconst (-1), 1) := by decide +kernel
theorem dX11_left_10 : decode cX11_left 10 = .ok (.ireturn, 1) := by decide +kernel
theorem dX11_left_11 : decode cX11_left 11 = .ok (.aload_n 0, 1) := by decide +kernel
theorem dX11_left_12 : decode cX11_left 12 = .ok (.iload_n 1, 1) := by decide +kernel
theorem dX11_left_13 : decode cX11_left 13 = .ok (.invokevirtual 214, 3) := by decide +kernel
theorem dX11_left_16 : decode cX11_left 16 = .ok (.istore_n 3, 1) := by decide +kernel
theorem dX11_left_17 : decode cX11_left 17 = .ok (.iload_n 3, 1) := by decide +kernel
theorem dX11_left_18 : decode cX11_left 18 = .ok (.ifCond .eq 5, 3) := by decide +kernel
theorem dX11_left_21 : decode cX11_left 21 = .ok (.iload_n 3, 1) := by decide +kernel
theorem dX11_left_22 : decode cX11_left 22 = .ok (.ireturn, 1) := by decide +kernel
theorem dX11_left_23 : decode cX11_left 23 = .ok (.aload_n 0, 1) := by decide +kernel
theorem dX11_left_24 : decode cX11_left 24 = .ok (.aload_n 0, 1) := by decide +kernel
theorem dX11_left_25 : decode cX11_left 25 = .ok (.getfield 95, 3) := by decide +kernel
theorem dX11_left_28 : decode cX11_left 28 = .ok (.iload_n 1, 1) := by decide +kernel
theorem dX11_left_29 : decode cX11_left 29 = .ok (.aaload, 1) := by decide +kernel
theorem dX11_left_30 : decode cX11_left 30 = .ok (.invokevirtual 217, 3) := by decide +kernel
theorem dX11_left_33 : decode cX11_left 33 = .ok (.bipush (-2), 2) := by decide +kernel
theorem dX11_left_35 : decode cX11_left 35 = .ok (.if_icmp .eq 6, 3) := by decide +kernel
theorem dX11_left_38 : decode cX11_left 38 = .ok (.bipush (-5), 2) := by decide +kernel
theorem dX11_left_40 : decode cX11_left 40 = .ok (.ireturn, 1) := by decide +kernel
theorem dX11_left_41 : decode cX11_left 41 = .ok (.iload_n 2, 1) := by decide +kernel
theorem dX11_left_42 : decode cX11_left 42 = .ok (.ifCond .ne 11, 3) := by decide +kernel
theorem dX11_left_45 : decode cX11_left 45 = .ok (.aload_n 0, 1) := by decide +kernel
theorem dX11_left_46 : decode cX11_left 46 = .ok (.getfield 73, 3) := by decide +kernel
theorem dX11_left_49 : decode cX11_left 49 = .ok (.getfield 221, 3) := by decide +kernel
theorem dX11_left_52 : decode cX11_left 52 = .ok (.ireturn, 1) := by decide +kernel
theorem dX11_left_53 : decode cX11_left 53 = .ok (.iload_n 2, 1) := by decide +kernel
theorem dX11_left_54 : decode cX11_left 54 = .ok (.iconst 1, 1) := by decide +kernel
theorem dX11_left_55 : decode cX11_left 55 = .ok (.if_icmp .ne 13, 3) := by decide +kernel
theorem dX11_left_58 : decode cX11_left 58 = .ok (.aload_n 0, 1) := by decide +kernel
theorem dX11_left_59 : decode cX11_left 59 = .ok (.getfield 73, 3) := by decide +kernel
theorem dX11_left_62 : decode cX11_left 62 = .ok (.getfield 224, 3) := by decide +kernel
theorem dX11_left_65 : decode cX11_left 65 = .ok (.goto 10, 3) := by decide +kernel
theorem dX11_left_68 : decode cX11_left 68 = .ok (.aload_n 0, 1) := by decide +kernel
theorem dX11_left_69 : decode cX11_left 69 = .ok (.getfield 73, 3) := by decide +kernel
theorem dX11_left_72 : decode cX11_left 72 = .ok (.getfield 152, 3) := by decide +kernel
theorem dX11_left_75 : decode cX11_left 75 = .ok (.ireturn, 1) := by decide +kernel
set_option maxRecDepth 20000 in
theorem ggX11_wise_X11_refusesBytes : GoodIn wsX11_wise wsX11_refusesBytes := goodIn_r _ [7, 1, 8, 9, 6, 10, 11, 12, 13, 14, 15, 16, 17, 18, 19, 20, 21, 22, 23, 24, 108, 109, 110, 111, 112, 113, 114, 115, 116, 117, 118, 119, 120, 121, 122, 123, 124, 125, 126, 127, 128] (by decide +kernel) (by decide +kernel)
set_option maxRecDepth 20000 in
theorem gX11_wise_X11_refusesBytes : GoodIn wsX11_wise (wsV RX11 214 RX11 yX11_refusesBytes wsX11_refusesBytes) := goodIn_app (goodIn_of _ (by decide +kernel)) ggX11_wise_X11_refusesBytes
set_option maxRecDepth 20000 in
theorem ggX11_wise_X11_listen : GoodIn wsX11_wise wsX11_listen := goodIn_r _ [28, 29, 30, 2, 31, 32, 33, 34, 35, 36, 37, 38, 39, 40, 41, 42, 43, 44, 45, 46, 47, 48, 49, 50, 51, 17, 52, 53, 54, 55, 56, 57, 6, 58, 11, 12, 13, 59, 60, 61, 62, 63, 64, 65, 66, 67, 68, 69, 70, 71, 72, 73, 74, 75, 76, 77, 78, 79, 80, 81, 82, 83, 84, 85, 86, 87, 88, 89, 90, 91, 92, 93, 94, 95, 96, 97, 98, 99, 100, 101, 102, 103, 104, 105, 106, 107, 108, 109, 110, 111, 112, 113, 114, 115, 116, 117, 118, 119, 120, 121, 122, 123, 124, 125, 126, 127, 128, 129, 130, 131, 132, 133, 134, 135, 136, 137, 138, 139, 140, 141, 142] (by decide +kernel) (by decide +kernel)
set_option maxRecDepth 20000 in
theorem gX11_wise_X11_listen : GoodIn wsX11_wise (wsV RX11 217 RX11 yX11_listen wsX11_listen) := goodIn_app (goodIn_of _ (by decide +kernel)) ggX11_wise_X11_listen
theorem dX11_wise_0 : decode cX11_wise 0 = .ok (.aload_n 0, 1) := by decide +kernel
theorem dX11_wise_1 : decode cX11_wise 1 = .ok (.iload_n 1, 1) := by decide +kernel
theorem dX11_wise_2 : decode cX11_wise 2 = .ok (.invokevirtual 214, 3) := by decide +kernel
theorem dX11_wise_5 : decode cX11_wise 5 = .ok (.istore_n 2, 1) := by decide +kernel
theorem dX11_wise_6 : decode cX11_wise 6 = .ok (.iload_n 2, 1) := by decide +kernel
theorem dX11_wise_7 : decode cX11_wise 7 = .ok (.ifCond .eq 5, 3) := by decide +kernel
theorem dX11_wise_10 : decode cX11_wise 10 = .ok (.iload_n 2, 1) := by decide +kernel
theorem dX11_wise_11 : decode cX11_wise 11 = .ok (.ireturn, 1) := by decide +kernel
theorem dX11_wise_12 : decode cX11_wise 12 = .ok (.aload_n 0, 1) := by decide +kernel
theorem dX11_wise_13 : decode cX11_wise 13 = .ok (.aload_n 0, 1) := by decide +kernel
theorem dX11_wise_14 : decode cX11_wise 14 = .ok (.getfield 95, 3) := by decide +kernel
theorem dX11_wise_17 : decode cX11_wise 17 = .ok (.iload_n 1, 1) := by decide +kernel
theorem dX11_wise_18 : decode cX11_wise 18 = .ok (.aaload, 1) := by decide +kernel
theorem dX11_wise_19 : decode cX11_wise 19 = .ok (.invokevirtual 217, 3) := by decide +kernel
theorem dX11_wise_22 : decode cX11_wise 22 = .ok (.bipush (-2), 2) := by decide +kernel
theorem dX11_wise_24 : decode cX11_wise 24 = .ok (.if_icmp .ne 10, 3) := by decide +kernel
theorem dX11_wise_27 : decode cX11_wise 27 = .ok (.aload_n 0, 1) := by decide +kernel
theorem dX11_wise_28 : decode cX11_wise 28 = .ok (.getfield 227, 3) := by decide +kernel
theorem dX11_wise_31 : decode cX11_wise 31 = .ok (.goto 5, 3) := by decide +kernel
theorem dX11_wise_34 : decode cX11_wise 34 = .ok (.bipush (-5), 2) := by decide +kernel
theorem dX11_wise_36 : decode cX11_wise 36 = .ok (.ireturn, 1) := by decide +kernel
set_option maxRecDepth 20000 in
theorem ggX11_drawn_X11_within : GoodIn wsX11_drawn wsX11_within := goodIn_r _ [8] (by decide +kernel) (by decide +kernel)
set_option maxRecDepth 20000 in
theorem gX11_drawn_X11_within : GoodIn wsX11_drawn (va_wsS RX11 122 yX11_within wsX11_within) := goodIn_app (goodIn_of _ (by decide +kernel)) ggX11_drawn_X11_within
set_option maxRecDepth 20000 in
theorem ggX11_drawn_X4_weigh : GoodIn wsX11_drawn wsX4_weigh := goodIn_r _ [13, 14, 15, 16, 17, 18, 19, 20, 21, 22, 23, 24, 25, 26, 27, 28, 29, 30, 31, 32, 33, 34, 35, 36, 37, 38, 39, 40, 41, 42, 43, 44, 45, 46, 47, 48, 49, 50, 51, 52, 53, 54, 55, 56, 57, 58, 59, 60, 61, 62, 63, 64, 65, 66, 12, 67, 68, 69, 209, 210, 211, 212, 213, 214, 215, 216, 217, 218, 219, 220, 221, 222, 223, 224, 225, 226, 227, 228, 229, 230, 231, 232] (by decide +kernel) (by decide +kernel)
set_option maxRecDepth 20000 in
theorem gX11_drawn_X4_weigh : GoodIn wsX11_drawn (wsV RX11 144 RX4 yX4_weigh wsX4_weigh) := goodIn_app (goodIn_of _ (by decide +kernel)) ggX11_drawn_X4_weigh
set_option maxRecDepth 20000 in
theorem ggX11_drawn_X11_nextSeed : GoodIn wsX11_drawn wsX11_nextSeed := goodIn_r _ [72, 73] (by decide +kernel) (by decide +kernel)
set_option maxRecDepth 20000 in
theorem gX11_drawn_X11_nextSeed : GoodIn wsX11_drawn (va_wsS RX11 230 yX11_nextSeed wsX11_nextSeed) := goodIn_app (goodIn_of _ (by decide +kernel)) ggX11_drawn_X11_nextSeed
set_option maxRecDepth 20000 in
theorem ggX11_drawn_X11_heightFor : GoodIn wsX11_drawn wsX11_heightFor := goodIn_r _ [77, 3, 1, 78, 20, 21, 22, 23, 24, 79, 80, 81, 12, 82, 18, 6, 7, 8, 83, 84, 85, 86, 17, 188, 189, 190, 191, 192, 193, 194, 195, 196, 197, 198, 199, 200, 201, 202, 203, 204, 227, 228, 229, 230, 231, 232, 219, 220, 221, 222, 223, 224, 225, 226] (by decide +kernel) (by decide +kernel)
set_option maxRecDepth 20000 in
theorem gX11_drawn_X11_heightFor : GoodIn wsX11_drawn (wsV RX11 233 RX11 yX11_heightFor wsX11_heightFor) := goodIn_app (goodIn_of _ (by decide +kernel)) ggX11_drawn_X11_heightFor
set_option maxRecDepth 20000 in
theorem ggX11_drawn_X11_walks : GoodIn wsX11_drawn wsX11_walks := goodIn_r _ [90, 91, 1, 2, 3, 4, 92, 93, 94, 95, 96, 97, 98, 99, 100, 101, 102, 103, 104, 105, 106, 107, 108, 109, 110, 111, 40, 37, 41, 112, 113, 114, 9, 10, 11, 12, 13, 14, 15, 16, 17, 18, 19, 20, 21, 22, 23, 24, 25, 26, 27, 28, 29, 30, 31, 32, 33, 34, 35, 36, 38, 39, 42, 43, 44, 45, 46, 47, 48, 49, 50, 51, 52, 53, 54, 55, 56, 57, 58, 59, 60, 61, 62, 63, 64, 65, 66, 67, 68, 69, 78, 115, 116, 117, 118, 119, 120, 121, 122, 123, 124, 125, 126, 127, 128, 129, 130, 131, 132, 133, 134, 135, 136, 137, 138, 139, 140, 141, 142, 143, 144, 145, 146, 7, 147, 148, 149, 150, 151, 152, 153, 80, 81, 82, 6, 8, 154, 155, 156, 157, 158, 159, 160, 161, 162, 163, 164, 165, 166, 167, 168, 169, 170, 171, 172, 173, 174, 175, 176, 177, 178, 179, 180, 181, 182, 183, 184, 185, 186, 187, 188, 189, 190, 191, 192, 193, 194, 195, 196, 197, 198, 199, 200, 201, 202, 203, 204, 205, 206, 207, 208, 233, 234, 235, 236, 237, 238, 239, 240, 209, 210, 211, 212, 213, 214, 215, 216, 217, 218, 219, 220, 221, 222, 223, 224, 225, 226, 227, 228, 229, 230, 231, 232] (by decide +kernel) (by decide +kernel)
set_option maxRecDepth 20000 in
theorem gX11_drawn_X11_walks : GoodIn wsX11_drawn (wsV RX11 196 RX11 yX11_walks wsX11_walks) := goodIn_app (goodIn_of _ (by decide +kernel)) ggX11_drawn_X11_walks
theorem dX11_drawn_0 : decode cX11_drawn 0 = .ok (.iload_n 2, 1) := by decide +kernel
theorem dX11_drawn_1 : decode cX11_drawn 1 = .ok (.bipush 100, 2) := by decide +kernel
theorem dX11_drawn_3 : decode cX11_drawn 3 = .ok (.idiv, 1) := by decide +kernel
theorem dX11_drawn_4 : decode cX11_drawn 4 = .ok (.istore 4, 2) := by decide +kernel
theorem dX11_drawn_6 : decode cX11_drawn 6 = .ok (.iload_n 2, 1) := by decide +kernel
theorem dX11_drawn_7 : decode cX11_drawn 7 = .ok (.bipush 100, 2) := by decide +kernel
theorem dX11_drawn_9 : decode cX11_drawn 9 = .ok (.irem, 1) := by decide +kernel
theorem dX11_drawn_10 : decode cX11_drawn 10 = .ok (.istore 5, 2) := by decide +kernel
theorem dX11_drawn_12 : decode cX11_drawn 12 = .ok (.iload_n 2, 1) := by decide +kernel
theorem dX11_drawn_13 : decode cX11_drawn 13 = .ok (.ifCond .lt 29, 3) := by decide +kernel
theorem dX11_drawn_16 : decode cX11_drawn 16 = .ok (.iload 4, 2) := by decide +kernel
theorem dX11_drawn_18 : decode cX11_drawn 18 = .ok (.iconst 1, 1) := by decide +kernel
theorem dX11_drawn_19 : decode cX11_drawn 19 = .ok (.if_icmp .gt 23, 3) := by decide +kernel
theorem dX11_drawn_22 : decode cX11_drawn 22 = .ok (.iload 5, 2) := by decide +kernel
theorem dX11_drawn_24 : decode cX11_drawn 24 = .ok (.iconst 1, 1) := by decide +kernel
theorem dX11_drawn_25 : decode cX11_drawn 25 = .ok (.bipush 60, 2) := by decide +kernel
theorem dX11_drawn_27 : decode cX11_drawn 27 = .ok (.invokestatic 122, 3) := by decide +kernel
theorem dX11_drawn_30 : decode cX11_drawn 30 = .ok (.ifCond .eq 12, 3) := by decide +kernel
theorem dX11_drawn_33 : decode cX11_drawn 33 = .ok (.iload_n 3, 1) := by decide +kernel
theorem dX11_drawn_34 : decode cX11_drawn 34 = .ok (.iconst 0, 1) := by decide +kernel
theorem dX11_drawn_35 : decode cX11_drawn 35 = .ok (.iconst 1, 1) := by decide +kernel
theorem dX11_drawn_36 : decode cX11_drawn 36 = .ok (.invokestatic 122, 3) := by decide +kernel
theorem dX11_drawn_39 : decode cX11_drawn 39 = .ok (.ifCond .ne 5, 3) := by decide +kernel
theorem dX11_drawn_42 : decode cX11_drawn 42 = .ok (.iconst (-1), 1) := by decide +kernel
theorem dX11_drawn_43 : decode cX11_drawn 43 = .ok (.ireturn, 1) := by decide +kernel
theorem dX11_drawn_44 : decode cX11_drawn 44 = .ok (.aload_n 0, 1) := by decide +kernel
theorem dX11_drawn_45 : decode cX11_drawn 45 = .ok (.getfield 41, 3) := by decide +kernel
theorem dX11_drawn_48 : decode cX11_drawn 48 = .ok (.aload_n 0, 1) := by decide +kernel
theorem dX11_drawn_49 : decode cX11_drawn 49 = .ok (.getfield 19, 3) := by decide +kernel
theorem dX11_drawn_52 : decode cX11_drawn 52 = .ok (.aload_n 0, 1) := by decide +kernel
theorem dX11_drawn_53 : decode cX11_drawn 53 = .ok (.getfield 10, 3) := by decide +kernel
theorem dX11_drawn_56 : decode cX11_drawn 56 = .ok (.invokevirtual 144, 3) := by decide +kernel
theorem dX11_drawn_59 : decode cX11_drawn 59 = .ok (.iload_n 1, 1) := by decide +kernel
theorem dX11_drawn_60 : decode cX11_drawn 60 = .ok (.istore 6, 2) := by decide +kernel
theorem dX11_drawn_62 : decode cX11_drawn 62 = .ok (.iconst 0, 1) := by decide +kernel
theorem dX11_drawn_63 : decode cX11_drawn 63 = .ok (.istore 7, 2) := by decide +kernel
theorem dX11_drawn_65 : decode cX11_drawn 65 = .ok (.iconst 0, 1) := by decide +kernel
theorem dX11_drawn_66 : decode cX11_drawn 66 = .ok (.istore 8, 2) := by decide +kernel
theorem dX11_drawn_68 : decode cX11_drawn 68 = .ok (.iload 8, 2) := by decide +kernel
theorem dX11_drawn_70 : decode cX11_drawn 70 = .ok (.iload 5, 2) := by decide +kernel
theorem dX11_drawn_72 : decode cX11_drawn 72 = .ok (.if_icmp .ge 60, 3) := by decide +kernel
theorem dX11_drawn_75 : decode cX11_drawn 75 = .ok (.iload 6, 2) := by decide +kernel
theorem dX11_drawn_77 : decode cX11_drawn 77 = .ok (.invokestatic 230, 3) := by decide +kernel
theorem dX11_drawn_80 : decode cX11_drawn 80 = .ok (.istore 6, 2) := by decide +kernel
theorem dX11_drawn_82 : decode cX11_drawn 82 = .ok (.aload_n 0, 1) := by decide +kernel
theorem dX11_drawn_83 : decode cX11_drawn 83 = .ok (.iload 4, 2) := by decide +kernel
theorem dX11_drawn_85 : decode cX11_drawn 85 = .ok (.aload_n 0, 1) := by decide +kernel
theorem dX11_drawn_86 : decode cX11_drawn 86 = .ok (.iload 6, 2) := by decide +kernel
theorem dX11_drawn_88 : decode cX11_drawn 88 = .ok (.invokevirtual 233, 3) := by decide +kernel
theorem dX11_drawn_91 : decode cX11_drawn 91 = .ok (.invokevirtual 196, 3) := by decide +kernel
theorem dX11_drawn_94 : decode cX11_drawn 94 = .ok (.ifCond .ne 6, 3) := by decide +kernel
theorem dX11_drawn_97 : decode cX11_drawn 97 = .ok (.bipush (-2), 2) := by decide +kernel
theorem dX11_drawn_99 : decode cX11_drawn 99 = .ok (.ireturn, 1) := by decide +kernel
theorem dX11_drawn_100 : decode cX11_drawn 100 = .ok (.iload 7, 2) := by decide +kernel
theorem dX11_drawn_102 : decode cX11_drawn 102 = .ok (.iload_n 3, 1) := by decide +kernel
theorem dX11_drawn_103 : decode cX11_drawn 103 = .ok (.ifCond .ne 13, 3) := by decide +kernel
theorem dX11_drawn_106 : decode cX11_drawn 106 = .ok (.aload_n 0, 1) := by decide +kernel
theorem dX11_drawn_107 : decode cX11_drawn 107 = .ok (.getfield 69, 3) := by decide +kernel
theorem dX11_drawn_110 : decode cX11_drawn 110 = .ok (.getfield 199, 3) := by decide +kernel
theorem dX11_drawn_113 : decode cX11_drawn 113 = .ok (.goto 10, 3) := by decide +kernel
theorem dX11_drawn_116 : decode cX11_drawn 116 = .ok (.aload_n 0, 1) := by decide +kernel
theorem dX11_drawn_117 : decode cX11_drawn 117 = .ok (.getfield 69, 3) := by decide +kernel
theorem dX11_drawn_120 : decode cX11_drawn 120 = .ok (.getfield 202, 3) := by decide +kernel
theorem dX11_drawn_123 : decode cX11_drawn 123 = .ok (.iadd, 1) := by decide +kernel
theorem dX11_drawn_124 : decode cX11_drawn 124 = .ok (.istore 7, 2) := by decide +kernel
theorem dX11_drawn_126 : decode cX11_drawn 126 = .ok (.iinc 8 1, 3) := by decide +kernel
theorem dX11_drawn_129 : decode cX11_drawn 129 = .ok (.goto (-61), 3) := by decide +kernel
theorem dX11_drawn_132 : decode cX11_drawn 132 = .ok (.iload 7, 2) := by decide +kernel
theorem dX11_drawn_134 : decode cX11_drawn 134 = .ok (.ireturn, 1) := by decide +kernel
set_option maxRecDepth 20000 in
theorem ggX11_hide_X4_weigh : GoodIn wsX11_hide wsX4_weigh := goodIn_r _ [9, 10, 11, 12, 13, 14, 15, 16, 17, 18, 19, 20, 21, 22, 23, 24, 25, 26, 27, 28, 29, 30, 31, 32, 33, 34, 35, 36, 37, 38, 39, 40, 41, 42, 43, 44, 45, 46, 47, 48, 49, 50, 51, 52, 53, 54, 55, 56, 57, 58, 59, 60, 61, 62, 8, 63, 64, 65, 123, 124, 125, 126, 127, 128, 129, 130, 131, 132, 133, 134, 135, 136, 137, 138, 139, 140, 141, 142, 143, 144, 145, 146] (by decide +kernel) (by decide +kernel)
set_option maxRecDepth 20000 in
theorem gX11_hide_X4_weigh : GoodIn wsX11_hide (wsV RX11 144 RX4 yX4_weigh wsX4_weigh) := goodIn_app (goodIn_of _ (by decide +kernel)) ggX11_hide_X4_weigh
set_option maxRecDepth 20000 in
theorem ggX11_hide_X11_nextSeed : GoodIn wsX11_hide wsX11_nextSeed := goodIn_r _ [69, 70] (by decide +kernel) (by decide +kernel)
set_option maxRecDepth 20000 in
theorem gX11_hide_X11_nextSeed : GoodIn wsX11_hide (va_wsS RX11 230 yX11_nextSeed wsX11_nextSeed) := goodIn_app (goodIn_of _ (by decide +kernel)) ggX11_hide_X11_nextSeed
set_option maxRecDepth 20000 in
theorem ggX11_hide_X11_heightFor : GoodIn wsX11_hide wsX11_heightFor := goodIn_r _ [74, 3, 1, 75, 16, 17, 18, 19, 20, 76, 77, 78, 8, 79, 14, 80, 68, 81, 82, 83, 84, 85, 13, 106, 107, 108, 109, 110, 111, 112, 113, 114, 115, 116, 117, 118, 119, 120, 121, 122, 141, 142, 143, 144, 145, 146, 133, 134, 135, 136, 137, 138, 139, 140] (by decide +kernel) (by decide +kernel)
set_option maxRecDepth 20000 in
theorem gX11_hide_X11_heightFor : GoodIn wsX11_hide (wsV RX11 233 RX11 yX11_heightFor wsX11_heightFor) := goodIn_app (goodIn_of _ (by decide +kernel)) ggX11_hide_X11_heightFor
set_option maxRecDepth 20000 in
theorem ggX11_hide_X8_steps : GoodIn wsX11_hide wsX8_steps := goodIn_r _ [19, 20, 141, 142, 143, 144, 145, 146] (by decide +kernel) (by decide +kernel)
set_option maxRecDepth 20000 in
theorem gX11_hide_X8_steps : GoodIn wsX11_hide (wsV RX11 119 RX8 yX8_steps wsX8_steps) := goodIn_app (goodIn_of _ (by decide +kernel)) ggX11_hide_X8_steps
set_option maxRecDepth 20000 in
theorem ggX11_hide_X8_jars : GoodIn wsX11_hide wsX8_jars := goodIn_r _ [24, 20, 141, 142, 143, 144, 145, 146] (by decide +kernel) (by decide +kernel)
set_option maxRecDepth 20000 in
theorem gX11_hide_X8_jars : GoodIn wsX11_hide (wsV RX11 126 RX8 yX8_jars wsX8_jars) := goodIn_app (goodIn_of _ (by decide +kernel)) ggX11_hide_X8_jars
set_option maxRecDepth 20000 in
theorem ggX11_hide_X1_begin : GoodIn wsX11_hide wsX1_begin := goodIn_r _ [91, 92, 93, 94, 95, 96, 97, 98, 99, 100, 101, 102, 103, 104, 105, 147, 148, 149, 150, 151, 152, 153, 154, 155, 156, 157] (by decide +kernel) (by decide +kernel)
set_option maxRecDepth 20000 in
theorem gX11_hide_X1_begin : GoodIn wsX11_hide (wsV RX11 236 RX1 yX1_begin wsX1_begin) := goodIn_app (goodIn_of _ (by decide +kernel)) ggX11_hide_X1_begin
theorem dX11_hide_0 : decode cX11_hide 0 = .ok (.aload_n 0, 1) := by decide +kernel
theorem dX11_hide_1 : decode cX11_hide 1 = .ok (.getfield 41, 3) := by decide +kernel
theorem dX11_hide_4 : decode cX11_hide 4 = .ok (.aload_n 0, 1) := by decide +kernel
theorem dX11_hide_5 : decode cX11_hide 5 = .ok (.getfield 19, 3) := by decide +kernel
theorem dX11_hide_8 : decode cX11_hide 8 = .ok (.aload_n 0, 1) := by decide +kernel
theorem dX11_hide_9 : decode cX11_hide 9 = .ok (.getfield 10, 3) := by decide +kernel
theorem dX11_hide_12 : decode cX11_hide 12 = .ok (.invokevirtual 144, 3) := by decide +kernel
theorem dX11_hide_15 : decode cX11_hide 15 = .ok (.aload_n 0, 1) := by decide +kernel
theorem dX11_hide_16 : decode cX11_hide 16 = .ok (.getfield 79, 3) := by decide +kernel
theorem dX11_hide_19 : decode cX11_hide 19 = .ok (.aload_n 0, 1) := by decide +kernel
theorem dX11_hide_20 : decode cX11_hide 20 = .ok (.iload_n 1, 1) := by decide +kernel
theorem dX11_hide_21 : decode cX11_hide 21 = .ok (.invokestatic 230, 3) := by decide +kernel
theorem dX11_hide_24 : decode cX11_hide 24 = .ok (.invokevirtual 233, 3) := by decide +kernel
theorem dX11_hide_27 : decode cX11_hide 27 = .ok (.aload_n 0, 1) := by decide +kernel
theorem dX11_hide_28 : decode cX11_hide 28 = .ok (.getfield 10, 3) := by decide +kernel
theorem dX11_hide_31 : decode cX11_hide 31 = .ok (.invokevirtual 119, 3) := by decide +kernel
theorem dX11_hide_34 : decode cX11_hide 34 = .ok (.aload_n 0, 1) := by decide +kernel
theorem dX11_hide_35 : decode cX11_hide 35 = .ok (.getfield 10, 3) := by decide +kernel
theorem dX11_hide_38 : decode cX11_hide 38 = .ok (.invokevirtual 126, 3) := by decide +kernel
theorem dX11_hide_41 : decode cX11_hide 41 = .ok (.invokevirtual 236, 3) := by decide +kernel
theorem dX11_hide_44 : decode cX11_hide 44 = .ok (.aload_n 0, 1) := by decide +kernel
theorem dX11_hide_45 : decode cX11_hide 45 = .ok (.getfield 10, 3) := by decide +kernel
theorem dX11_hide_48 : decode cX11_hide 48 = .ok (.invokevirtual 119, 3) := by decide +kernel
theorem dX11_hide_51 : decode cX11_hide 51 = .ok (.ireturn, 1) := by decide +kernel
set_option maxRecDepth 20000 in
theorem ggX11_drop_X11_stepsInDeed : GoodIn wsX11_drop wsX11_stepsInDeed := goodIn_r _ [6, 1, 7, 8, 9, 10, 11, 12, 13, 41, 42, 43, 44, 45, 46, 47, 48, 49, 50, 51, 52, 53, 54, 55, 56, 57, 58, 59, 60, 61, 62, 63, 64, 65, 69, 70, 71, 72, 73, 74] (by decide +kernel) (by decide +kernel)
set_option maxRecDepth 20000 in
theorem gX11_drop_X11_stepsInDeed : GoodIn wsX11_drop (wsV RX11 240 RX11 yX11_stepsInDeed wsX11_stepsInDeed) := goodIn_app (goodIn_of _ (by decide +kernel)) ggX11_drop_X11_stepsInDeed
set_option maxRecDepth 20000 in
theorem ggX11_drop_X11_within : GoodIn wsX11_drop wsX11_within := goodIn_r _ [16] (by decide +kernel) (by decide +kernel)
set_option maxRecDepth 20000 in
theorem gX11_drop_X11_within : GoodIn wsX11_drop (va_wsS RX11 122 yX11_within wsX11_within) := goodIn_app (goodIn_of _ (by decide +kernel)) ggX11_drop_X11_within
set_option maxRecDepth 20000 in
theorem ggX11_drop_X1_dropFrom : GoodIn wsX11_drop wsX1_dropFrom := goodIn_r _ [21, 22, 23, 24, 25, 26, 27, 28, 29, 30, 31, 32, 33, 34, 35, 36, 37, 38, 39, 40, 58, 59, 60, 61, 62, 63, 64, 65, 66, 67, 68] (by decide +kernel) (by decide +kernel)
set_option maxRecDepth 20000 in
theorem gX11_drop_X1_dropFrom : GoodIn wsX11_drop (wsV RX11 250 RX1 yX1_dropFrom wsX1_dropFrom) := goodIn_app (goodIn_of _ (by decide +kernel)) ggX11_drop_X1_dropFrom
theorem dX11_drop_0 : decode cX11_drop 0 = .ok (.iload_n 1, 1) := by decide +kernel
theorem dX11_drop_1 : decode cX11_drop 1 = .ok (.iconst 1, 1) := by decide +kernel
theorem dX11_drop_2 : decode cX11_drop 2 = .ok (.aload_n 0, 1) := by decide +kernel
theorem dX11_drop_3 : decode cX11_drop 3 = .ok (.invokevirtual 240, 3) := by decide +kernel
theorem dX11_drop_6 : decode cX11_drop 6 = .ok (.invokestatic 122, 3) := by decide +kernel
theorem dX11_drop_9 : decode cX11_drop 9 = .ok (.ifCond .ne 5, 3) := by decide +kernel
theorem dX11_drop_12 : decode cX11_drop 12 = .ok (.iconst (-1), 1) := by decide +kernel
theorem dX11_drop_13 : decode cX11_drop 13 = .ok (.ireturn, 1) := by decide +kernel
theorem dX11_drop_14 : decode cX11_drop 14 = .ok (.aload_n 0, 1) := by decide +kernel
theorem dX11_drop_15 : decode cX11_drop 15 = .ok (.getfield 79, 3) := by decide +kernel
theorem dX11_drop_18 : decode cX11_drop 18 = .ok (.getfield 243, 3) := by decide +kernel
theorem dX11_drop_21 : decode cX11_drop 21 = .ok (.ifCond .eq 16, 3) := by decide +kernel
theorem dX11_drop_24 : decode cX11_drop 24 = .ok (.aload_n 0, 1) := by decide +kernel
theorem dX11_drop_25 : decode cX11_drop 25 = .ok (.getfield 79, 3) := by decide +kernel
theorem dX11_drop_28 : decode cX11_drop 28 = .ok (.getfield 247, 3) := by decide +kernel
theorem dX11_drop_31 : decode cX11_drop 31 = .ok (.getfield 152, 3) := by decide +kernel
theorem dX11_drop_34 : decode cX11_drop 34 = .ok (.ifCond .ne 6, 3) := by decide +kernel
theorem dX11_drop_37 : decode cX11_drop 37 = .ok (.bipush (-5), 2) := by decide +kernel
theorem dX11_drop_39 : decode cX11_drop 39 = .ok (.ireturn, 1) := by decide +kernel
theorem dX11_drop_40 : decode cX11_drop 40 = .ok (.aload_n 0, 1) := by decide +kernel
theorem dX11_drop_41 : decode cX11_drop 41 = .ok (.getfield 79, 3) := by decide +kernel
theorem dX11_drop_44 : decode cX11_drop 44 = .ok (.iload_n 1, 1) := by decide +kernel
theorem dX11_drop_45 : decode cX11_drop 45 = .ok (.invokevirtual 250, 3) := by decide +kernel
theorem dX11_drop_48 : decode cX11_drop 48 = .ok (.ifCond .eq 7, 3) := by decide +kernel
theorem dX11_drop_51 : decode cX11_drop 51 = .ok (.iconst 1, 1) := by decide +kernel
theorem dX11_drop_52 : decode cX11_drop 52 = .ok (.goto 4, 3) := by decide +kernel
theorem dX11_drop_55 : decode cX11_drop 55 = .ok (.iconst 0, 1) := by decide +kernel
theorem dX11_drop_56 : decode cX11_drop 56 = .ok (.ireturn, 1) := by decide +kernel
set_option maxRecDepth 20000 in
theorem ggX11_drops_X11_isShelf : GoodIn wsX11_drops wsX11_isShelf := goodIn_r _ [6, 7, 8, 5, 9] (by decide +kernel) (by decide +kernel)
set_option maxRecDepth 20000 in
theorem gX11_drops_X11_isShelf : GoodIn wsX11_drops (va_wsS RX11 254 yX11_isShelf wsX11_isShelf) := goodIn_app (goodIn_of _ (by decide +kernel)) ggX11_drops_X11_isShelf
set_option maxRecDepth 20000 in
theorem ggX11_drops_X11_within : GoodIn wsX11_drops wsX11_within := goodIn_r _ [9] (by decide +kernel) (by decide +kernel)
set_option maxRecDepth 20000 in
theorem gX11_drops_X11_within : GoodIn wsX11_drops (va_wsS RX11 122 yX11_within wsX11_within) := goodIn_app (goodIn_of _ (by decide +kernel)) ggX11_drops_X11_within
set_option maxRecDepth 20000 in
theorem ggX11_drops_X11_refusesBytes : GoodIn wsX11_drops wsX11_refusesBytes := goodIn_r _ [13, 2, 3, 4, 5, 6, 7, 8, 9, 14, 15, 16, 17, 18, 19, 20, 21, 22, 23, 24, 63, 64, 65, 66, 67, 68, 69, 70, 71, 72, 73, 74, 75, 76, 77, 78, 79, 88, 89, 90, 91] (by decide +kernel) (by decide +kernel)
set_option maxRecDepth 20000 in
theorem gX11_drops_X11_refusesBytes : GoodIn wsX11_drops (wsV RX11 214 RX11 yX11_refusesBytes wsX11_refusesBytes) := goodIn_app (goodIn_of _ (by decide +kernel)) ggX11_drops_X11_refusesBytes
set_option maxRecDepth 20000 in
theorem ggX11_drops_X11_dropAll : GoodIn wsX11_drops wsX11_dropAll := goodIn_r _ [28, 1, 29, 30, 31, 32, 33, 34, 35, 36, 37, 38, 17, 39, 40, 41, 7, 8, 5, 9, 42, 43, 44, 45, 46, 47, 48, 49, 50, 51, 52, 53, 54, 55, 56, 57, 58, 59, 60, 61, 62, 88, 89, 90, 91, 63, 64, 65, 66, 67, 68, 69, 70, 71, 72, 73, 74, 75, 76, 77, 78, 79, 80, 81, 82, 83, 84, 85, 86, 87, 92, 93, 94] (by decide +kernel) (by decide +kernel)
set_option maxRecDepth 20000 in
theorem gX11_drops_X11_dropAll : GoodIn wsX11_drops (wsV RX11 257 RX11 yX11_dropAll wsX11_dropAll) := goodIn_app (goodIn_of _ (by decide +kernel)) ggX11_drops_X11_dropAll
theorem dX11_drops_0 : decode cX11_drops 0 = .ok (.iload_n 1, 1) := by decide +kernel
theorem dX11_drops_1 : decode cX11_drops 1 = .ok (.invokestatic 254, 3) := by decide +kernel
theorem dX11_drops_4 : decode cX11_drops 4 = .ok (.ifCond .eq 13, 3) := by decide +kernel
theorem dX11_drops_7 : decode cX11_drops 7 = .ok (.iload_n 3, 1) := by decide +kernel
theorem dX11_drops_8 : decode cX11_drops 8 = .ok (.iconst 1, 1) := by decide +kernel
theorem dX11_drops_9 : decode cX11_drops 9 = .ok (.bipush 20, 2) := by decide +kernel
theorem dX11_drops_11 : decode cX11_drops 11 = .ok (.invokestatic 122, 3) := by decide +kernel
theorem dX11_drops_14 : decode cX11_drops 14 = .ok (.ifCond .ne 5, 3) := by decide +kernel
theorem dX11_drops_17 : decode cX11_drops 17 = .ok (.iconst (-1), 1) := by decide +kernel
theorem dX11_drops_18 : decode cX11_drops 18 = .ok (.ireturn, 1) := by decide +kernel
theorem dX11_drops_19 : decode cX11_drops 19 = .ok (.aload_n 0, 1) := by decide +kernel
theorem dX11_drops_20 : decode cX11_drops 20 = .ok (.iload_n 1, 1) := by decide +kernel
theorem dX11_drops_21 : decode cX11_drops 21 = .ok (.invokevirtual 214, 3) := by decide +kernel
theorem dX11_drops_24 : decode cX11_drops 24 = .ok (.istore 4, 2) := by decide +kernel
theorem dX11_drops_26 : decode cX11_drops 26 = .ok (.iload 4, 2) := by decide +kernel
theorem dX11_drops_28 : decode cX11_drops 28 = .ok (.bipush (-12), 2) := by decide +kernel
theorem dX11_drops_30 : decode cX11_drops 30 = .ok (.if_icmp .ne 6, 3) := by decide +kernel
theorem dX11_drops_33 : decode cX11_drops 33 = .ok (.bipush (-12), 2) := by decide +kernel
theorem dX11_drops_35 : decode cX11_drops 35 = .ok (.ireturn, 1) := by decide +kernel
theorem dX11_drops_36 : decode cX11_drops 36 = .ok (.aload_n 0, 1) := by decide +kernel
theorem dX11_drops_37 : decode cX11_drops 37 = .ok (.getfield 79, 3) := by decide +kernel
theorem dX11_drops_40 : decode cX11_drops 40 = .ok (.getfield 243, 3) := by decide +kernel
theorem dX11_drops_43 : decode cX11_drops 43 = .ok (.ifCond .ne 6, 3) := by decide +kernel
theorem dX11_drops_46 : decode cX11_drops 46 = .ok (.bipush (-5), 2) := by decide +kernel
theorem dX11_drops_48 : decode cX11_drops 48 = .ok (.ireturn, 1) := by decide +kernel
theorem dX11_drops_49 : decode cX11_drops 49 = .ok (.iload 4, 2) := by decide +kernel
theorem dX11_drops_51 : decode cX11_drops 51 = .ok (.bipush (-11), 2) := by decide +kernel
theorem dX11_drops_53 : decode cX11_drops 53 = .ok (.if_icmp .ne 7, 3) := by decide +kernel
theorem dX11_drops_56 : decode cX11_drops 56 = .ok (.iconst 0, 1) := by decide +kernel
theorem dX11_drops_57 : decode cX11_drops 57 = .ok (.goto 15, 3) := by decide +kernel
theorem dX11_drops_60 : decode cX11_drops 60 = .ok (.aload_n 0, 1) := by decide +kernel
theorem dX11_drops_61 : decode cX11_drops 61 = .ok (.aload_n 0, 1) := by decide +kernel
theorem dX11_drops_62 : decode cX11_drops 62 = .ok (.getfield 95, 3) := by decide +kernel
theorem dX11_drops_65 : decode cX11_drops 65 = .ok (.iload_n 1, 1) := by decide +kernel
theorem dX11_drops_66 : decode cX11_drops 66 = .ok (.aaload, 1) := by decide +kernel
theorem dX11_drops_67 : decode cX11_drops 67 = .ok (.iload_n 2, 1) := by decide +kernel
theorem dX11_drops_68 : decode cX11_drops 68 = .ok (.iload_n 3, 1) := by decide +kernel
theorem dX11_drops_69 : decode cX11_drops 69 = .ok (.invokevirtual 257, 3) := by decide +kernel
theorem dX11_drops_72 : decode cX11_drops 72 = .ok (.ireturn, 1) := by decide +kernel
set_option maxRecDepth 20000 in
theorem ggX11_guess_X11_stepsInDeed : GoodIn wsX11_guess wsX11_stepsInDeed := goodIn_r _ [6, 1, 7, 8, 9, 10, 11, 12, 13, 26, 27, 28, 29, 30, 31, 32, 33, 34, 35, 36, 37, 38, 39, 40, 41, 42, 43, 44, 45, 46, 47, 48, 49, 50, 51, 52, 53, 54, 55, 56] (by decide +kernel) (by decide +kernel)
set_option maxRecDepth 20000 in
theorem gX11_guess_X11_stepsInDeed : GoodIn wsX11_guess (wsV RX11 240 RX11 yX11_stepsInDeed wsX11_stepsInDeed) := goodIn_app (goodIn_of _ (by decide +kernel)) ggX11_guess_X11_stepsInDeed
set_option maxRecDepth 20000 in
theorem ggX11_guess_X11_within : GoodIn wsX11_guess wsX11_within := goodIn_r _ [16] (by decide +kernel) (by decide +kernel)
set_option maxRecDepth 20000 in
theorem gX11_guess_X11_within : GoodIn wsX11_guess (va_wsS RX11 122 yX11_within wsX11_within) := goodIn_app (goodIn_of _ (by decide +kernel)) ggX11_guess_X11_within
set_option maxRecDepth 20000 in
theorem ggX11_guess_X1_isGuessed : GoodIn wsX11_guess wsX1_isGuessed := goodIn_r _ [21, 22, 23, 24, 25, 43, 44, 45, 46, 47, 48, 49, 50] (by decide +kernel) (by decide +kernel)
set_option maxRecDepth 20000 in
theorem gX11_guess_X1_isGuessed : GoodIn wsX11_guess (wsV RX11 261 RX1 yX1_isGuessed wsX1_isGuessed) := goodIn_app (goodIn_of _ (by decide +kernel)) ggX11_guess_X1_isGuessed
theorem dX11_guess_0 : decode cX11_guess 0 = .ok (.iload_n 1, 1) := by decide +kernel
theorem dX11_guess_1 : decode cX11_guess 1 = .ok (.iconst 0, 1) := by decide +kernel
theorem dX11_guess_2 : decode cX11_guess 2 = .ok (.aload_n 0, 1) := by decide +kernel
theorem dX11_guess_3 : decode cX11_guess 3 = .ok (.invokevirtual 240, 3) := by decide +kernel
theorem dX11_guess_6 : decode cX11_guess 6 = .ok (.invokestatic 122, 3) := by decide +kernel
theorem dX11_guess_9 : decode cX11_guess 9 = .ok (.ifCond .ne 5, 3) := by decide +kernel
theorem dX11_guess_12 : decode cX11_guess 12 = .ok (.iconst (-1), 1) := by decide +kernel
theorem dX11_guess_13 : decode cX11_guess 13 = .ok (.ireturn, 1) := by decide +kernel
theorem dX11_guess_14 : decode cX11_guess 14 = .ok (.aload_n 0, 1) := by decide +kernel
theorem dX11_guess_15 : decode cX11_guess 15 = .ok (.getfield 79, 3) := by decide +kernel
theorem dX11_guess_18 : decode cX11_guess 18 = .ok (.getfield 243, 3) := by decide +kernel
theorem dX11_guess_21 : decode cX11_guess 21 = .ok (.ifCond .ne 6, 3) := by decide +kernel
theorem dX11_guess_24 : decode cX11_guess 24 = .ok (.bipush (-5), 2) := by decide +kernel
theorem dX11_guess_26 : decode cX11_guess 26 = .ok (.ireturn, 1) := by decide +kernel
theorem dX11_guess_27 : decode cX11_guess 27 = .ok (.aload_n 0, 1) := by decide +kernel
theorem dX11_guess_28 : decode cX11_guess 28 = .ok (.getfield 79, 3) := by decide +kernel
theorem dX11_guess_31 : decode cX11_guess 31 = .ok (.iload_n 1, 1) := by decide +kernel
theorem dX11_guess_32 : decode cX11_guess 32 = .ok (.invokevirtual 261, 3) := by decide +kernel
theorem dX11_guess_35 : decode cX11_guess 35 = .ok (.ifCond .eq 7, 3) := by decide +kernel
theorem dX11_guess_38 : decode cX11_guess 38 = .ok (.iconst 1, 1) := by decide +kernel
theorem dX11_guess_39 : decode cX11_guess 39 = .ok (.goto 4, 3) := by decide +kernel
theorem dX11_guess_42 : decode cX11_guess 42 = .ok (.iconst 0, 1) := by decide +kernel
theorem dX11_guess_43 : decode cX11_guess 43 = .ok (.ireturn, 1) := by decide +kernel
set_option maxRecDepth 20000 in
theorem ggX11_led_X11_within : GoodIn wsX11_led wsX11_within := goodIn_r _ [5] (by decide +kernel) (by decide +kernel)
set_option maxRecDepth 20000 in
theorem gX11_led_X11_within : GoodIn wsX11_led (va_wsS RX11 122 yX11_within wsX11_within) := goodIn_app (goodIn_of _ (by decide +kernel)) ggX11_led_X11_within
theorem dX11_led_0 : decode cX11_led 0 = .ok (.iload_n 1, 1) := by decide +kernel
theorem dX11_led_1 : decode cX11_led 1 = .ok (.iconst 0, 1) := by decide +kernel
theorem dX11_led_2 : decode cX11_led 2 = .ok (.iconst 5, 1) := by decide +kernel
theorem dX11_led_3 : decode cX11_led 3 = .ok (.invokestatic 122, 3) := by decide +kernel
theorem dX11_led_6 : decode cX11_led 6 = .ok (.ifCond .ne 5, 3) := by decide +kernel
theorem dX11_led_9 : decode cX11_led 9 = .ok (.iconst (-1), 1) := by decide +kernel
theorem dX11_led_10 : decode cX11_led 10 = .ok (.ireturn, 1) := by decide +kernel
theorem dX11_led_11 : decode cX11_led 11 = .ok (.iload_n 1, 1) := by decide +kernel
theorem dX11_led_12 : decode cX11_led 12 = .ok (.iconst 4, 1) := by decide +kernel
theorem dX11_led_13 : decode cX11_led 13 = .ok (.if_icmp .ge 16, 3) := by decide +kernel
theorem dX11_led_16 : decode cX11_led 16 = .ok (.aload_n 0, 1) := by decide +kernel
theorem dX11_led_17 : decode cX11_led 17 = .ok (.getfield 79, 3) := by decide +kernel
theorem dX11_led_20 : decode cX11_led 20 = .ok (.getfield 243, 3) := by decide +kernel
theorem dX11_led_23 : decode cX11_led 23 = .ok (.ifCond .ne 6, 3) := by decide +kernel
theorem dX11_led_26 : decode cX11_led 26 = .ok (.bipush (-5), 2) := by decide +kernel
theorem dX11_led_28 : decode cX11_led 28 = .ok (.ireturn, 1) := by decide +kernel
theorem dX11_led_29 : decode cX11_led 29 = .ok (.iload_n 1, 1) := by decide +kernel
theorem dX11_led_30 : decode cX11_led 30 = .ok (.tableswitch 80 0 4 #[34, 42, 50, 61, 72], 34) := by decide +kernel
theorem dX11_led_64 : decode cX11_led 64 = .ok (.aload_n 0, 1) := by decide +kernel
theorem dX11_led_65 : decode cX11_led 65 = .ok (.getfield 79, 3) := by decide +kernel
theorem dX11_led_68 : decode cX11_led 68 = .ok (.getfield 264, 3) := by decide +kernel
theorem dX11_led_71 : decode cX11_led 71 = .ok (.ireturn, 1) := by decide +kernel
theorem dX11_led_72 : decode cX11_led 72 = .ok (.aload_n 0, 1) := by decide +kernel
theorem dX11_led_73 : decode cX11_led 73 = .ok (.getfield 79, 3) := by decide +kernel
theorem dX11_led_76 : decode cX11_led 76 = .ok (.getfield 265, 3) := by decide +kernel
theorem dX11_led_79 : decode cX11_led 79 = .ok (.ireturn, 1) := by decide +kernel
theorem dX11_led_80 : decode cX11_led 80 = .ok (.aload_n 0, 1) := by decide +kernel
theorem dX11_led_81 : decode cX11_led 81 = .ok (.getfield 79, 3) := by decide +kernel
theorem dX11_led_84 : decode cX11_led 84 = .ok (.getfield 247, 3) := by decide +kernel
theorem dX11_led_87 : decode cX11_led 87 = .ok (.getfield 221, 3) := by decide +kernel
theorem dX11_led_90 : decode cX11_led 90 = .ok (.ireturn, 1) := by decide +kernel
theorem dX11_led_91 : decode cX11_led 91 = .ok (.aload_n 0, 1) := by decide +kernel
theorem dX11_led_92 : decode cX11_led 92 = .ok (.getfield 79, 3) := by decide +kernel
theorem dX11_led_95 : decode cX11_led 95 = .ok (.getfield 247, 3) := by decide +kernel
theorem dX11_led_98 : decode cX11_led 98 = .ok (.getfield 224, 3) := by decide +kernel
theorem dX11_led_101 : decode cX11_led 101 = .ok (.ireturn, 1) := by decide +kernel
theorem dX11_led_102 : decode cX11_led 102 = .ok (.aload_n 0, 1) := by decide +kernel
theorem dX11_led_103 : decode cX11_led 103 = .ok (.getfield 79, 3) := by decide +kernel
theorem dX11_led_106 : decode cX11_led 106 = .ok (.getfield 268, 3) := by decide +kernel
theorem dX11_led_109 : decode cX11_led 109 = .ok (.ireturn, 1) := by decide +kernel
theorem dX11_led_110 : decode cX11_led 110 = .ok (.aload_n 0, 1) := by decide +kernel
theorem dX11_led_111 : decode cX11_led 111 = .ok (.getfield 79, 3) := by decide +kernel
theorem dX11_led_114 : decode cX11_led 114 = .ok (.getfield 271, 3) := by decide +kernel
theorem dX11_led_117 : decode cX11_led 117 = .ok (.ireturn, 1) := by decide +kernel
set_option maxRecDepth 20000 in
theorem ggX11_image_X1_copy : GoodIn wsX11_image wsX1_copy := goodIn_r _ [8, 9, 10, 11, 12, 13, 14, 15, 16, 17, 18, 19, 20, 21, 22, 23, 24, 47, 48, 49, 50, 51, 52, 53, 54, 55, 56, 57] (by decide +kernel) (by decide +kernel)
set_option maxRecDepth 20000 in
theorem gX11_image_X1_copy : GoodIn wsX11_image (wsV RX11 274 RX1 yX1_copy wsX1_copy) := goodIn_app (goodIn_of _ (by decide +kernel)) ggX11_image_X1_copy
set_option maxRecDepth 20000 in
theorem ggX11_image_X11_dropsInDeed : GoodIn wsX11_image wsX11_dropsInDeed := goodIn_r _ [29, 2, 30, 31, 32, 33, 34, 35, 36, 37, 38, 39, 40, 41, 42, 43, 44, 45, 46, 47, 48, 49, 50, 51, 52, 53, 54] (by decide +kernel) (by decide +kernel)
set_option maxRecDepth 20000 in
theorem gX11_image_X11_dropsInDeed : GoodIn wsX11_image (wsV RX11 281 RX11 yX11_dropsInDeed wsX11_dropsInDeed) := goodIn_app (goodIn_of _ (by decide +kernel)) ggX11_image_X11_dropsInDeed
theorem dX11_image_0 : decode cX11_image 0 = .ok (.aload_n 0, 1) := by decide +kernel
theorem dX11_image_1 : decode cX11_image 1 = .ok (.getfield 83, 3) := by decide +kernel
theorem dX11_image_4 : decode cX11_image 4 = .ok (.aload_n 0, 1) := by decide +kernel
theorem dX11_image_5 : decode cX11_image 5 = .ok (.getfield 79, 3) := by decide +kernel
theorem dX11_image_8 : decode cX11_image 8 = .ok (.invokevirtual 274, 3) := by decide +kernel
theorem dX11_image_11 : decode cX11_image 11 = .ok (.aload_n 0, 1) := by decide +kernel
theorem dX11_image_12 : decode cX11_image 12 = .ok (.iconst 1, 1) := by decide +kernel
theorem dX11_image_13 : decode cX11_image 13 = .ok (.putfield 278, 3) := by decide +kernel
theorem dX11_image_16 : decode cX11_image 16 = .ok (.aload_n 0, 1) := by decide +kernel
theorem dX11_image_17 : decode cX11_image 17 = .ok (.invokevirtual 281, 3) := by decide +kernel
theorem dX11_image_20 : decode cX11_image 20 = .ok (.ireturn, 1) := by decide +kernel
set_option maxRecDepth 20000 in
theorem ggX11_back_X1_copy : GoodIn wsX11_back wsX1_copy := goodIn_r _ [8, 9, 10, 11, 12, 13, 14, 15, 16, 17, 18, 19, 20, 21, 22, 23, 24, 47, 48, 49, 50, 51, 52, 53, 54, 55, 56, 57] (by decide +kernel) (by decide +kernel)
set_option maxRecDepth 20000 in
theorem gX11_back_X1_copy : GoodIn wsX11_back (wsV RX11 274 RX1 yX1_copy wsX1_copy) := goodIn_app (goodIn_of _ (by decide +kernel)) ggX11_back_X1_copy
set_option maxRecDepth 20000 in
theorem ggX11_back_X11_dropsInDeed : GoodIn wsX11_back wsX11_dropsInDeed := goodIn_r _ [29, 2, 30, 31, 32, 33, 34, 35, 36, 37, 38, 39, 40, 41, 42, 43, 44, 45, 46, 47, 48, 49, 50, 51, 52, 53, 54] (by decide +kernel) (by decide +kernel)
set_option maxRecDepth 20000 in
theorem gX11_back_X11_dropsInDeed : GoodIn wsX11_back (wsV RX11 281 RX11 yX11_dropsInDeed wsX11_dropsInDeed) := goodIn_app (goodIn_of _ (by decide +kernel)) ggX11_back_X11_dropsInDeed
theorem dX11_back_0 : decode cX11_back 0 = .ok (.aload_n 0, 1) := by decide +kernel
theorem dX11_back_1 : decode cX11_back 1 = .ok (.getfield 278, 3) := by decide +kernel
theorem dX11_back_4 : decode cX11_back 4 = .ok (.ifCond .ne 6, 3) := by decide +kernel
theorem dX11_back_7 : decode cX11_back 7 = .ok (.bipush (-5), 2) := by decide +kernel
theorem dX11_back_9 : decode cX11_back 9 = .ok (.ireturn, 1) := by decide +kernel
theorem dX11_back_10 : decode cX11_back 10 = .ok (.aload_n 0, 1) := by decide +kernel
theorem dX11_back_11 : decode cX11_back 11 = .ok (.getfield 79, 3) := by decide +kernel
theorem dX11_back_14 : decode cX11_back 14 = .ok (.aload_n 0, 1) := by decide +kernel
theorem dX11_back_15 : decode cX11_back 15 = .ok (.getfield 83, 3) := by decide +kernel
theorem dX11_back_18 : decode cX11_back 18 = .ok (.invokevirtual 274, 3) := by decide +kernel
theorem dX11_back_21 : decode cX11_back 21 = .ok (.aload_n 0, 1) := by decide +kernel
theorem dX11_back_22 : decode cX11_back 22 = .ok (.invokevirtual 281, 3) := by decide +kernel
theorem dX11_back_25 : decode cX11_back 25 = .ok (.ireturn, 1) := by decide +kernel
set_option maxRecDepth 20000 in
theorem ggX11_undo_X8_takeBack : GoodIn wsX11_undo wsX8_takeBack := goodIn_r _ [6, 7, 8, 9, 10, 28, 29, 30, 31, 32, 33] (by decide +kernel) (by decide +kernel)
set_option maxRecDepth 20000 in
theorem gX11_undo_X8_takeBack : GoodIn wsX11_undo (wsV RX11 284 RX8 yX8_takeBack wsX8_takeBack) := goodIn_app (goodIn_of _ (by decide +kernel)) ggX11_undo_X8_takeBack
theorem dX11_undo_0 : decode cX11_undo 0 = .ok (.aload_n 0, 1) := by decide +kernel
theorem dX11_undo_1 : decode cX11_undo 1 = .ok (.getfield 10, 3) := by decide +kernel
theorem dX11_undo_4 : decode cX11_undo 4 = .ok (.invokevirtual 284, 3) := by decide +kernel
theorem dX11_undo_7 : decode cX11_undo 7 = .ok (.ireturn, 1) := by decide +kernel
set_option maxRecDepth 20000 in
theorem ggX11_redo_X8_doAgain : GoodIn wsX11_redo wsX8_doAgain := goodIn_r _ [6, 7, 8, 9, 10, 11, 29, 30, 31, 32, 33, 34] (by decide +kernel) (by decide +kernel)
set_option maxRecDepth 20000 in
theorem gX11_redo_X8_doAgain : GoodIn wsX11_redo (wsV RX11 287 RX8 yX8_doAgain wsX8_doAgain) := goodIn_app (goodIn_of _ (by decide +kernel)) ggX11_redo_X8_doAgain
theorem dX11_redo_0 : decode cX11_redo 0 = .ok (.aload_n 0, 1) := by decide +kernel
theorem dX11_redo_1 : decode cX11_redo 1 = .ok (.getfield 10, 3) := by decide +kernel
theorem dX11_redo_4 : decode cX11_redo 4 = .ok (.invokevirtual 287, 3) := by decide +kernel
theorem dX11_redo_7 : decode cX11_redo 7 = .ok (.ireturn, 1) := by decide +kernel
set_option maxRecDepth 20000 in
theorem ggX11_body_X0_isKind : GoodIn wsX11_body wsX0_isKind := goodIn_r _ [5, 6, 7, 8] (by decide +kernel) (by decide +kernel)
set_option maxRecDepth 20000 in
theorem gX11_body_X0_isKind : GoodIn wsX11_body (va_wsS RX11 290 yX0_isKind wsX0_isKind) := goodIn_app (goodIn_of _ (by decide +kernel)) ggX11_body_X0_isKind
set_option maxRecDepth 20000 in
theorem ggX11_body_X0_add : GoodIn wsX11_body wsX0_add := goodIn_r _ [12, 13, 14, 32, 33, 34, 35, 36, 37] (by decide +kernel) (by decide +kernel)
set_option maxRecDepth 20000 in
theorem gX11_body_X0_add : GoodIn wsX11_body (wsV RX11 293 RX0 yX0_add wsX0_add) := goodIn_app (goodIn_of _ (by decide +kernel)) ggX11_body_X0_add
theorem dX11_body_0 : decode cX11_body 0 = .ok (.iload_n 1, 1) := by decide +kernel
theorem dX11_body_1 : decode cX11_body 1 = .ok (.invokestatic 290, 3) := by decide +kernel
theorem dX11_body_4 : decode cX11_body 4 = .ok (.ifCond .eq 14, 3) := by decide +kernel
theorem dX11_body_7 : decode cX11_body 7 = .ok (.aload_n 0, 1) := by decide +kernel
theorem dX11_body_8 : decode cX11_body 8 = .ok (.getfield 89, 3) := by decide +kernel
theorem dX11_body_11 : decode cX11_body 11 = .ok (.iload_n 1, 1) := by decide +kernel
theorem dX11_body_12 : decode cX11_body 12 = .ok (.invokevirtual 293, 3) := by decide +kernel
theorem dX11_body_15 : decode cX11_body 15 = .ok (.goto 4, 3) := by decide +kernel
theorem dX11_body_18 : decode cX11_body 18 = .ok (.iconst (-1), 1) := by decide +kernel
theorem dX11_body_19 : decode cX11_body 19 = .ok (.ireturn, 1) := by decide +kernel
set_option maxRecDepth 20000 in
theorem ggX11_act_X0_play : GoodIn wsX11_act wsX0_play := goodIn_r _ [6, 7, 8, 9, 10, 11, 12, 13, 5, 14, 15, 16, 17, 18, 19, 20, 21, 22, 23, 24, 25, 26, 27, 28, 29, 30, 31, 32, 33, 34, 35, 36, 54, 55, 56, 57, 58, 59] (by decide +kernel) (by decide +kernel)
set_option maxRecDepth 20000 in
theorem gX11_act_X0_play : GoodIn wsX11_act (wsV RX11 296 RX0 yX0_play wsX0_play) := goodIn_app (goodIn_of _ (by decide +kernel)) ggX11_act_X0_play
theorem dX11_act_0 : decode cX11_act 0 = .ok (.aload_n 0, 1) := by decide +kernel
theorem dX11_act_1 : decode cX11_act 1 = .ok (.getfield 89, 3) := by decide +kernel
theorem dX11_act_4 : decode cX11_act 4 = .ok (.iload_n 1, 1) := by decide +kernel
theorem dX11_act_5 : decode cX11_act 5 = .ok (.iload_n 2, 1) := by decide +kernel
theorem dX11_act_6 : decode cX11_act 6 = .ok (.iload_n 3, 1) := by decide +kernel
theorem dX11_act_7 : decode cX11_act 7 = .ok (.invokevirtual 296, 3) := by decide +kernel
theorem dX11_act_10 : decode cX11_act 10 = .ok (.ireturn, 1) := by decide +kernel
set_option maxRecDepth 20000 in
theorem ggX11_trace_X0_traced : GoodIn wsX11_trace wsX0_traced := goodIn_r _ [6, 7, 8, 26, 27, 28, 29, 30, 31] (by decide +kernel) (by decide +kernel)
set_option maxRecDepth 20000 in
theorem gX11_trace_X0_traced : GoodIn wsX11_trace (wsV RX11 299 RX0 yX0_traced wsX0_traced) := goodIn_app (goodIn_of _ (by decide +kernel)) ggX11_trace_X0_traced
theorem dX11_trace_0 : decode cX11_trace 0 = .ok (.aload_n 0, 1) := by decide +kernel
theorem dX11_trace_1 : decode cX11_trace 1 = .ok (.getfield 89, 3) := by decide +kernel
theorem dX11_trace_4 : decode cX11_trace 4 = .ok (.iload_n 1, 1) := by decide +kernel
theorem dX11_trace_5 : decode cX11_trace 5 = .ok (.invokevirtual 299, 3) := by decide +kernel
theorem dX11_trace_8 : decode cX11_trace 8 = .ok (.ireturn, 1) := by decide +kernel
set_option maxRecDepth 20000 in
theorem ggX11_keep_X11_isShelf : GoodIn wsX11_keep wsX11_isShelf := goodIn_r _ [6, 7, 8, 5, 9] (by decide +kernel) (by decide +kernel)
set_option maxRecDepth 20000 in
theorem gX11_keep_X11_isShelf : GoodIn wsX11_keep (va_wsS RX11 254 yX11_isShelf wsX11_isShelf) := goodIn_app (goodIn_of _ (by decide +kernel)) ggX11_keep_X11_isShelf
set_option maxRecDepth 20000 in
theorem ggX11_keep_X0_has : GoodIn wsX11_keep wsX0_has := goodIn_r _ [14, 15, 41, 42, 43, 44, 45, 46] (by decide +kernel) (by decide +kernel)
set_option maxRecDepth 20000 in
theorem gX11_keep_X0_has : GoodIn wsX11_keep (wsV RX11 302 RX0 yX0_has wsX0_has) := goodIn_app (goodIn_of _ (by decide +kernel)) ggX11_keep_X0_has
set_option maxRecDepth 20000 in
theorem ggX11_keep_X6_holdBody : GoodIn wsX11_keep wsX6_holdBody := goodIn_r _ [20, 21, 22, 23, 47, 48, 49, 50] (by decide +kernel) (by decide +kernel)
set_option maxRecDepth 20000 in
theorem gX11_keep_X6_holdBody : GoodIn wsX11_keep (wsV RX11 305 RX6 yX6_holdBody wsX6_holdBody) := goodIn_app (goodIn_of _ (by decide +kernel)) ggX11_keep_X6_holdBody
theorem dX11_keep_0 : decode cX11_keep 0 = .ok (.iload_n 1, 1) := by decide +kernel
theorem dX11_keep_1 : decode cX11_keep 1 = .ok (.invokestatic 254, 3) := by decide +kernel
theorem dX11_keep_4 : decode cX11_keep 4 = .ok (.ifCond .eq 19, 3) := by decide +kernel
theorem dX11_keep_7 : decode cX11_keep 7 = .ok (.iload_n 2, 1) := by decide +kernel
theorem dX11_keep_8 : decode cX11_keep 8 = .ok (.iconst (-1), 1) := by decide +kernel
theorem dX11_keep_9 : decode cX11_keep 9 = .ok (.if_icmp .eq 16, 3) := by decide +kernel
theorem dX11_keep_12 : decode cX11_keep 12 = .ok (.aload_n 0, 1) := by decide +kernel
theorem dX11_keep_13 : decode cX11_keep 13 = .ok (.getfield 89, 3) := by decide +kernel
theorem dX11_keep_16 : decode cX11_keep 16 = .ok (.iload_n 2, 1) := by decide +kernel
theorem dX11_keep_17 : decode cX11_keep 17 = .ok (.invokevirtual 302, 3) := by decide +kernel
theorem dX11_keep_20 : decode cX11_keep 20 = .ok (.ifCond .ne 5, 3) := by decide +kernel
theorem dX11_keep_23 : decode cX11_keep 23 = .ok (.iconst (-1), 1) := by decide +kernel
theorem dX11_keep_24 : decode cX11_keep 24 = .ok (.ireturn, 1) := by decide +kernel
theorem dX11_keep_25 : decode cX11_keep 25 = .ok (.aload_n 0, 1) := by decide +kernel
theorem dX11_keep_26 : decode cX11_keep 26 = .ok (.getfield 95, 3) := by decide +kernel
theorem dX11_keep_29 : decode cX11_keep 29 = .ok (.iload_n 1, 1) := by decide +kernel
theorem dX11_keep_30 : decode cX11_keep 30 = .ok (.aaload, 1) := by decide +kernel
theorem dX11_keep_31 : decode cX11_keep 31 = .ok (.iload_n 2, 1) := by decide +kernel
theorem dX11_keep_32 : decode cX11_keep 32 = .ok (.invokevirtual 305, 3) := by decide +kernel
theorem dX11_keep_35 : decode cX11_keep 35 = .ok (.iconst 1, 1) := by decide +kernel
theorem dX11_keep_36 : decode cX11_keep 36 = .ok (.ireturn, 1) := by decide +kernel
set_option maxRecDepth 20000 in
theorem ggX11_row_X11_isShelf : GoodIn wsX11_row wsX11_isShelf := goodIn_r _ [5, 6, 7, 4, 8] (by decide +kernel) (by decide +kernel)
set_option maxRecDepth 20000 in
theorem gX11_row_X11_isShelf : GoodIn wsX11_row (va_wsS RX11 254 yX11_isShelf wsX11_isShelf) := goodIn_app (goodIn_of _ (by decide +kernel)) ggX11_row_X11_isShelf
set_option maxRecDepth 20000 in
theorem ggX11_row_X11_within : GoodIn wsX11_row wsX11_within := goodIn_r _ [8] (by decide +kernel) (by decide +kernel)
set_option maxRecDepth 20000 in
theorem gX11_row_X11_within : GoodIn wsX11_row (va_wsS RX11 122 yX11_within wsX11_within) := goodIn_app (goodIn_of _ (by decide +kernel)) ggX11_row_X11_within
set_option maxRecDepth 20000 in
theorem ggX11_row_X6_holdRow : GoodIn wsX11_row wsX6_holdRow := goodIn_r _ [13, 14, 15, 16, 17, 18, 19, 20, 21, 39, 40, 41, 42] (by decide +kernel) (by decide +kernel)
set_option maxRecDepth 20000 in
theorem gX11_row_X6_holdRow : GoodIn wsX11_row (wsV RX11 309 RX6 yX6_holdRow wsX6_holdRow) := goodIn_app (goodIn_of _ (by decide +kernel)) ggX11_row_X6_holdRow
theorem dX11_row_0 : decode cX11_row 0 = .ok (.iload_n 1, 1) := by decide +kernel
theorem dX11_row_1 : decode cX11_row 1 = .ok (.invokestatic 254, 3) := by decide +kernel
theorem dX11_row_4 : decode cX11_row 4 = .ok (.ifCond .eq 18, 3) := by decide +kernel
theorem dX11_row_7 : decode cX11_row 7 = .ok (.iload_n 2, 1) := by decide +kernel
theorem dX11_row_8 : decode cX11_row 8 = .ok (.iconst 0, 1) := by decide +kernel
theorem dX11_row_9 : decode cX11_row 9 = .ok (.iconst 4, 1) := by decide +kernel
theorem dX11_row_10 : decode cX11_row 10 = .ok (.invokestatic 122, 3) := by decide +kernel
theorem dX11_row_13 : decode cX11_row 13 = .ok (.ifCond .eq 9, 3) := by decide +kernel
theorem dX11_row_16 : decode cX11_row 16 = .ok (.iload_n 3, 1) := by decide +kernel
theorem dX11_row_17 : decode cX11_row 17 = .ok (.bipush 60, 2) := by decide +kernel
theorem dX11_row_19 : decode cX11_row 19 = .ok (.if_icmp .le 5, 3) := by decide +kernel
theorem dX11_row_22 : decode cX11_row 22 = .ok (.iconst (-1), 1) := by decide +kernel
theorem dX11_row_23 : decode cX11_row 23 = .ok (.ireturn, 1) := by decide +kernel
theorem dX11_row_24 : decode cX11_row 24 = .ok (.iload_n 3, 1) := by decide +kernel
theorem dX11_row_25 : decode cX11_row 25 = .ok (.ifCond .ge 6, 3) := by decide +kernel
theorem dX11_row_28 : decode cX11_row 28 = .ok (.bipush (-14), 2) := by decide +kernel
theorem dX11_row_30 : decode cX11_row 30 = .ok (.ireturn, 1) := by decide +kernel
theorem dX11_row_31 : decode cX11_row 31 = .ok (.aload_n 0, 1) := by decide +kernel
theorem dX11_row_32 : decode cX11_row 32 = .ok (.getfield 95, 3) := by decide +kernel
theorem dX11_row_35 : decode cX11_row 35 = .ok (.iload_n 1, 1) := by decide +kernel
theorem dX11_row_36 : decode cX11_row 36 = .ok (.aaload, 1) := by decide +kernel
theorem dX11_row_37 : decode cX11_row 37 = .ok (.iload_n 2, 1) := by decide +kernel
theorem dX11_row_38 : decode cX11_row 38 = .ok (.iload_n 3, 1) := by decide +kernel
theorem dX11_row_39 : decode cX11_row 39 = .ok (.invokevirtual 309, 3) := by decide +kernel
theorem dX11_row_42 : decode cX11_row 42 = .ok (.iconst 1, 1) := by decide +kernel
theorem dX11_row_43 : decode cX11_row 43 = .ok (.ireturn, 1) := by decide +kernel
set_option maxRecDepth 20000 in
theorem ggX11_put_X11_refusesPlace : GoodIn wsX11_put wsX11_refusesPlace := goodIn_r _ [6, 1, 7, 8, 5, 9, 10, 11, 12, 13, 14, 15, 16, 17, 18, 19, 20, 21, 22, 23, 24, 25, 26, 27, 28, 38, 39, 40, 41, 42, 43, 44, 45, 46, 47, 48, 49, 50, 51, 52, 53, 54, 55, 56, 57, 58] (by decide +kernel) (by decide +kernel)
set_option maxRecDepth 20000 in
theorem gX11_put_X11_refusesPlace : GoodIn wsX11_put (wsV RX11 312 RX11 yX11_refusesPlace wsX11_refusesPlace) := goodIn_app (goodIn_of _ (by decide +kernel)) ggX11_put_X11_refusesPlace
set_option maxRecDepth 20000 in
theorem ggX11_put_X6_set : GoodIn wsX11_put wsX6_set := goodIn_r _ [32, 28, 33, 34, 35, 36, 16, 37, 19, 55, 56, 57, 58] (by decide +kernel) (by decide +kernel)
set_option maxRecDepth 20000 in
theorem gX11_put_X6_set : GoodIn wsX11_put (wsV RX11 315 RX6 yX6_set wsX6_set) := goodIn_app (goodIn_of _ (by decide +kernel)) ggX11_put_X6_set
theorem dX11_put_0 : decode cX11_put 0 = .ok (.aload_n 0, 1) := by decide +kernel
theorem dX11_put_1 : decode cX11_put 1 = .ok (.iload_n 1, 1) := by decide +kernel
theorem dX11_put_2 : decode cX11_put 2 = .ok (.iload_n 2, 1) := by decide +kernel
theorem dX11_put_3 : decode cX11_put 3 = .ok (.invokevirtual 312, 3) := by decide +kernel
theorem dX11_put_6 : decode cX11_put 6 = .ok (.istore 5, 2) := by decide +kernel
theorem dX11_put_8 : decode cX11_put 8 = .ok (.iload 5, 2) := by decide +kernel
theorem dX11_put_10 : decode cX11_put 10 = .ok (.ifCond .eq 6, 3) := by decide +kernel
theorem dX11_put_13 : decode cX11_put 13 = .ok (.iload 5, 2) := by decide +kernel
theorem dX11_put_15 : decode cX11_put 15 = .ok (.ireturn, 1) := by decide +kernel
theorem dX11_put_16 : decode cX11_put 16 = .ok (.aload_n 0, 1) := by decide +kernel
theorem dX11_put_17 : decode cX11_put 17 = .ok (.getfield 95, 3) := by decide +kernel
theorem dX11_put_20 : decode cX11_put 20 = .ok (.iload_n 1, 1) := by decide +kernel
theorem dX11_put_21 : decode cX11_put 21 = .ok (.aaload, 1) := by decide +kernel
theorem dX11_put_22 : decode cX11_put 22 = .ok (.iload_n 2, 1) := by decide +kernel
theorem dX11_put_23 : decode cX11_put 23 = .ok (.lload_n 3, 1) := by decide +kernel
theorem dX11_put_24 : decode cX11_put 24 = .ok (.invokevirtual 315, 3) := by decide +kernel
theorem dX11_put_27 : decode cX11_put 27 = .ok (.iconst 1, 1) := by decide +kernel
theorem dX11_put_28 : decode cX11_put 28 = .ok (.ireturn, 1) := by decide +kernel
set_option maxRecDepth 20000 in
theorem ggX11_element_X11_refusesPlace : GoodIn wsX11_element wsX11_refusesPlace := goodIn_r _ [7, 2, 8, 9, 6, 10, 11, 12, 13, 14, 15, 16, 17, 18, 19, 20, 21, 22, 23, 24, 25, 26, 27, 28, 29, 35, 36, 37, 38, 39, 40, 41, 42, 43, 44, 45, 46, 47, 48, 49, 50, 51, 52, 53, 54, 55] (by decide +kernel) (by decide +kernel)
set_option maxRecDepth 20000 in
theorem gX11_element_X11_refusesPlace : GoodIn wsX11_element (wsV RX11 312 RX11 yX11_refusesPlace wsX11_refusesPlace) := goodIn_app (goodIn_of _ (by decide +kernel)) ggX11_element_X11_refusesPlace
set_option maxRecDepth 20000 in
theorem ggX11_element_X6_get : GoodIn wsX11_element wsX6_get := goodIn_r _ [33, 29, 34, 52, 53, 54, 55] (by decide +kernel) (by decide +kernel)
set_option maxRecDepth 20000 in
theorem gX11_element_X6_get : GoodIn wsX11_element (wsV RX11 319 RX6 yX6_get wsX6_get) := goodIn_app (goodIn_of _ (by decide +kernel)) ggX11_element_X6_get
theorem dX11_element_0 : decode cX11_element 0 = .ok (.aload_n 0, 1) := by decide +kernel
theorem dX11_element_1 : decode cX11_element 1 = .ok (.iload_n 1, 1) := by decide +kernel
theorem dX11_element_2 : decode cX11_element 2 = .ok (.iload_n 2, 1) := by decide +kernel
theorem dX11_element_3 : decode cX11_element 3 = .ok (.invokevirtual 312, 3) := by decide +kernel
theorem dX11_element_6 : decode cX11_element 6 = .ok (.ifCond .eq 9, 3) := by decide +kernel
theorem dX11_element_9 : decode cX11_element 9 = .ok (.ldc2_w 210, 3) := by decide +kernel
theorem dX11_element_12 : decode cX11_element 12 = .ok (.goto 13, 3) := by decide +kernel
theorem dX11_element_15 : decode cX11_element 15 = .ok (.aload_n 0, 1) := by decide +kernel
theorem dX11_element_16 : decode cX11_element 16 = .ok (.getfield 95, 3) := by decide +kernel
theorem dX11_element_19 : decode cX11_element 19 = .ok (.iload_n 1, 1) := by decide +kernel
theorem dX11_element_20 : decode cX11_element 20 = .ok (.aaload, 1) := by decide +kernel
theorem dX11_element_21 : decode cX11_element 21 = .ok (.iload_n 2, 1) := by decide +kernel
theorem dX11_element_22 : decode cX11_element 22 = .ok (.invokevirtual 319, 3) := by decide +kernel
theorem dX11_element_25 : decode cX11_element 25 = .ok (.lreturn, 1) := by decide +kernel
set_option maxRecDepth 20000 in
theorem ggX11_shift_X11_isShelf : GoodIn wsX11_shift wsX11_isShelf := goodIn_r _ [9, 10, 11, 8, 12] (by decide +kernel) (by decide +kernel)
set_option maxRecDepth 20000 in
theorem gX11_shift_X11_isShelf : GoodIn wsX11_shift (va_wsS RX11 254 yX11_isShelf wsX11_isShelf) := goodIn_app (goodIn_of _ (by decide +kernel)) ggX11_shift_X11_isShelf
set_option maxRecDepth 20000 in
theorem ggX11_shift_X6_isEmpty : GoodIn wsX11_shift wsX6_isEmpty := goodIn_r _ [17, 18, 19, 46, 47, 48, 49] (by decide +kernel) (by decide +kernel)
set_option maxRecDepth 20000 in
theorem gX11_shift_X6_isEmpty : GoodIn wsX11_shift (wsV RX11 323 RX6 yX6_isEmpty wsX6_isEmpty) := goodIn_app (goodIn_of _ (by decide +kernel)) ggX11_shift_X6_isEmpty
set_option maxRecDepth 20000 in
theorem ggX11_shift_X6_isRow : GoodIn wsX11_shift wsX6_isRow := goodIn_r _ [23, 19, 46, 47, 48, 49] (by decide +kernel) (by decide +kernel)
set_option maxRecDepth 20000 in
theorem gX11_shift_X6_isRow : GoodIn wsX11_shift (wsV RX11 326 RX6 yX6_isRow wsX6_isRow) := goodIn_app (goodIn_of _ (by decide +kernel)) ggX11_shift_X6_isRow
set_option maxRecDepth 20000 in
theorem ggX11_shift_X6_hasPlaces : GoodIn wsX11_shift wsX6_hasPlaces := goodIn_r _ [27, 28, 46, 47, 48, 49] (by decide +kernel) (by decide +kernel)
set_option maxRecDepth 20000 in
theorem gX11_shift_X6_hasPlaces : GoodIn wsX11_shift (wsV RX11 332 RX6 yX6_hasPlaces wsX6_hasPlaces) := goodIn_app (goodIn_of _ (by decide +kernel)) ggX11_shift_X6_hasPlaces
theorem dX11_shift_0 : decode cX11_shift 0 = .ok (.iload_n 1, 1) := by decide +kernel
theorem dX11_shift_1 : decode cX11_shift 1 = .ok (.invokestatic 254, 3) := by decide +kernel
theorem dX11_shift_4 : decode cX11_shift 4 = .ok (.ifCond .eq 10, 3) := by decide +kernel
theorem dX11_shift_7 : decode cX11_shift 7 = .ok (.iload_n 3, 1) := by decide +kernel
theorem dX11_shift_8 : decode cX11_shift 8 = .ok (.invokestatic 254, 3) := by decide +kernel
theorem dX11_shift_11 : decode cX11_shift 11 = .ok (.ifCond .ne 5, 3) := by decide +kernel
theorem dX11_shift_14 : decode cX11_shift 14 = .ok (.iconst (-1), 1) := by decide +kernel
theorem dX11_shift_15 : decode cX11_shift 15 = .ok (.ireturn, 1) := by decide +kernel
theorem dX11_shift_16 : decode cX11_shift 16 = .ok (.aload_n 0, 1) := by decide +kernel
theorem dX11_shift_17 : decode cX11_shift 17 = .ok (.getfield 95, 3) := by decide +kernel
theorem dX11_shift_20 : decode cX11_shift 20 = .ok (.iload_n 1, 1) := by decide +kernel
theorem dX11_shift_21 : decode cX11_shift 21 = .ok (.aaload, 1) := by decide +kernel
theorem dX11_shift_22 : decode cX11_shift 22 = .ok (.astore 6, 2) := by decide +kernel
theorem dX11_shift_24 : decode cX11_shift 24 = .ok (.aload_n 0, 1) := by decide +kernel
theorem dX11_shift_25 : decode cX11_shift 25 = .ok (.getfield 95, 3) := by decide +kernel
theorem dX11_shift_28 : decode cX11_shift 28 = .ok (.iload_n 3, 1) := by decide +kernel
theorem dX11_shift_29 : decode cX11_shift 29 = .ok (.aaload, 1) := by decide +kernel
theorem dX11_shift_30 : decode cX11_shift 30 = .ok (.astore 7, 2) := by decide +kernel
theorem dX11_shift_32 : decode cX11_shift 32 = .ok (.aload 6, 2) := by decide +kernel
theorem dX11_shift_34 : decode cX11_shift 34 = .ok (.invokevirtual 323, 3) := by decide +kernel
theorem dX11_shift_37 : decode cX11_shift 37 = .ok (.ifCond .ne 11, 3) := by decide +kernel
theorem dX11_shift_40 : decode cX11_shift 40 = .ok (.aload 7, 2) := by decide +kernel
theorem dX11_shift_42 : decode cX11_shift 42 = .ok (.invokevirtual 323, 3) := by decide +kernel
theorem dX11_shift_45 : decode cX11_shift 45 = .ok (.ifCond .eq 6, 3) := by decide +kernel
theorem dX11_shift_48 : decode cX11_shift 48 = .ok (.bipush (-11), 2) := by decide +kernel
theorem dX11_shift_50 : decode cX11_shift 50 = .ok (.ireturn, 1) := by decide +kernel
theorem dX11_shift_51 : decode cX11_shift 51 = .ok (.aload 6, 2) := by decide +kernel
theorem dX11_shift_53 : decode cX11_shift 53 = .ok (.invokevirtual 326, 3) := by decide +kernel
theorem dX11_shift_56 : decode cX11_shift 56 = .ok (.ifCond .eq 24, 3) := by decide +kernel
theorem dX11_shift_59 : decode cX11_shift 59 = .ok (.aload 7, 2) := by decide +kernel
theorem dX11_shift_61 : decode cX11_shift 61 = .ok (.invokevirtual 326, 3) := by decide +kernel
theorem dX11_shift_64 : decode cX11_shift 64 = .ok (.ifCond .eq 16, 3) := by decide +kernel
theorem dX11_shift_67 : decode cX11_shift 67 = .ok (.aload 6, 2) := by decide +kernel
theorem dX11_shift_69 : decode cX11_shift 69 = .ok (.getfield 329, 3) := by decide +kernel
theorem dX11_shift_72 : decode cX11_shift 72 = .ok (.aload 7, 2) := by decide +kernel
theorem dX11_shift_74 : decode cX11_shift 74 = .ok (.getfield 329, 3) := by decide +kernel
theorem dX11_shift_77 : decode cX11_shift 77 = .ok (.if_icmp .eq 6, 3) := by decide +kernel
theorem dX11_shift_80 : decode cX11_shift 80 = .ok (.bipush (-12), 2) := by decide +kernel
theorem dX11_shift_82 : decode cX11_shift 82 = .ok (.ireturn, 1) := by decide +kernel
theorem dX11_shift_83 : decode cX11_shift 83 = .ok (.aload 6, 2) := by decide +kernel
theorem dX11_shift_85 : decode cX11_shift 85 = .ok (.iload_n 2, 1) := by decide +kernel
theorem dX11_shift_86 : decode cX11_shift 86 = .ok (.iload 5, 2) := by decide +kernel
theorem dX11_shift_88 : decode cX11_shift 88 = .ok (.invokevirtual 332, 3) := by decide +kernel
theorem dX11_shift_91 : decode cX11_shift 91 = .ok (.ifCond .eq 15, 3) := by decide +kernel
theorem dX11_shift_94 : decode cX11_shift 94 = .ok (.aload 7, 2) := by decide +kernel
theorem dX11_shift_96 : decode cX11_shift 96 = .ok (.iload 4, 2) := by decide +kernel
theorem dX11_shift_98 : decode cX11_shift 98 = .ok (.iload 5, 2) := by decide +kernel
theorem dX11_shift_100 : decode cX11_shift 100 = .ok (.invokevirtual 332, 3) := by decide +kernel
theorem dX11_shift_103 : decode cX11_shift 103 = .ok (.ifCond .ne 6, 3) := by decide +kernel
theorem dX11_shift_106 : decode cX11_shift 106 = .ok (.bipush (-13), 2) := by decide +kernel
theorem dX11_shift_108 : decode cX11_shift 108 = .ok (.ireturn, 1) := by decide +kernel
theorem dX11_shift_109 : decode cX11_shift 109 = .ok (.aload 6, 2) := by decide +kernel
theorem dX11_shift_111 : decode cX11_shift 111 = .ok (.getfield 335, 3) := by decide +kernel
theorem dX11_shift_114 : decode cX11_shift 114 = .ok (.iload_n 2, 1) := by decide +kernel
theorem dX11_shift_115 : decode cX11_shift 115 = .ok (.aload 7, 2) := by decide +kernel
theorem dX11_shift_117 : decode cX11_shift 117 = .ok (.getfield 335, 3) := by decide +kernel
theorem dX11_shift_120 : decode cX11_shift 120 = .ok (.iload 4, 2) := by decide +kernel
theorem dX11_shift_122 : decode cX11_shift 122 = .ok (.iload 5, 2) := by decide +kernel
theorem dX11_shift_124 : decode cX11_shift 124 = .ok (.invokestatic 339, 3) := by decide +kernel
theorem dX11_shift_127 : decode cX11_shift 127 = .ok (.iload 5, 2) := by decide +kernel
theorem dX11_shift_129 : decode cX11_shift 129 = .ok (.ireturn, 1) := by decide +kernel
set_option maxRecDepth 20000 in
theorem ggX11_taken_X11_isShelf : GoodIn wsX11_taken wsX11_isShelf := goodIn_r _ [6, 7, 8, 5, 9] (by decide +kernel) (by decide +kernel)
set_option maxRecDepth 20000 in
theorem gX11_taken_X11_isShelf : GoodIn wsX11_taken (va_wsS RX11 254 yX11_isShelf wsX11_isShelf) := goodIn_app (goodIn_of _ (by decide +kernel)) ggX11_taken_X11_isShelf
set_option maxRecDepth 20000 in
theorem ggX11_taken_X0_isKind : GoodIn wsX11_taken wsX0_isKind := goodIn_r _ [13, 8, 5, 9] (by decide +kernel) (by decide +kernel)
set_option maxRecDepth 20000 in
theorem gX11_taken_X0_isKind : GoodIn wsX11_taken (va_wsS RX11 290 yX0_isKind wsX0_isKind) := goodIn_app (goodIn_of _ (by decide +kernel)) ggX11_taken_X0_isKind
set_option maxRecDepth 20000 in
theorem ggX11_taken_X6_isEmpty : GoodIn wsX11_taken wsX6_isEmpty := goodIn_r _ [18, 19, 20, 57, 58, 59, 60] (by decide +kernel) (by decide +kernel)
set_option maxRecDepth 20000 in
theorem gX11_taken_X6_isEmpty : GoodIn wsX11_taken (wsV RX11 323 RX6 yX6_isEmpty wsX6_isEmpty) := goodIn_app (goodIn_of _ (by decide +kernel)) ggX11_taken_X6_isEmpty
set_option maxRecDepth 20000 in
theorem ggX11_taken_X6_isRow : GoodIn wsX11_taken wsX6_isRow := goodIn_r _ [24, 20, 57, 58, 59, 60] (by decide +kernel) (by decide +kernel)
set_option maxRecDepth 20000 in
theorem gX11_taken_X6_isRow : GoodIn wsX11_taken (wsV RX11 326 RX6 yX6_isRow wsX6_isRow) := goodIn_app (goodIn_of _ (by decide +kernel)) ggX11_taken_X6_isRow
set_option maxRecDepth 20000 in
theorem ggX11_taken_X0_kindOf : GoodIn wsX11_taken wsX0_kindOf := goodIn_r _ [28, 29, 30, 31, 32, 12, 33, 34, 61, 62, 63, 64, 65, 66] (by decide +kernel) (by decide +kernel)
set_option maxRecDepth 20000 in
theorem gX11_taken_X0_kindOf : GoodIn wsX11_taken (wsV RX11 348 RX0 yX0_kindOf wsX0_kindOf) := goodIn_app (goodIn_of _ (by decide +kernel)) ggX11_taken_X0_kindOf
set_option maxRecDepth 20000 in
theorem ggX11_taken_X0_isUnder : GoodIn wsX11_taken wsX0_isUnder := goodIn_r _ [37, 38, 39, 11, 12, 13, 8, 5, 9] (by decide +kernel) (by decide +kernel)
set_option maxRecDepth 20000 in
theorem gX11_taken_X0_isUnder : GoodIn wsX11_taken (va_wsS RX11 351 yX0_isUnder wsX0_isUnder) := goodIn_app (goodIn_of _ (by decide +kernel)) ggX11_taken_X0_isUnder
theorem dX11_taken_0 : decode cX11_taken 0 = .ok (.iload_n 1, 1) := by decide +kernel
theorem dX11_taken_1 : decode cX11_taken 1 = .ok (.invokestatic 254, 3) := by decide +kernel
theorem dX11_taken_4 : decode cX11_taken 4 = .ok (.ifCond .eq 10, 3) := by decide +kernel
theorem dX11_taken_7 : decode cX11_taken 7 = .ok (.iload_n 2, 1) := by decide +kernel
theorem dX11_taken_8 : decode cX11_taken 8 = .ok (.invokestatic 290, 3) := by decide +kernel
theorem dX11_taken_11 : decode cX11_taken 11 = .ok (.ifCond .ne 5, 3) := by decide +kernel
theorem dX11_taken_14 : decode cX11_taken 14 = .ok (.iconst (-1), 1) := by decide +kernel
theorem dX11_taken_15 : decode cX11_taken 15 = .ok (.ireturn, 1) := by decide +kernel
theorem dX11_taken_16 : decode cX11_taken 16 = .ok (.aload_n 0, 1) := by decide +kernel
theorem dX11_taken_17 : decode cX11_taken 17 = .ok (.getfield 95, 3) := by decide +kernel
theorem dX11_taken_20 : decode cX11_taken 20 = .ok (.iload_n 1, 1) := by decide +kernel
theorem dX11_taken_21 : decode cX11_taken 21 = .ok (.aaload, 1) := by decide +kernel
theorem dX11_taken_22 : decode cX11_taken 22 = .ok (.astore_n 3, 1) := by decide +kernel
theorem dX11_taken_23 : decode cX11_taken 23 = .ok (.aload_n 3, 1) := by decide +kernel
theorem dX11_taken_24 : decode cX11_taken 24 = .ok (.invokevirtual 323, 3) := by decide +kernel
theorem dX11_taken_27 : decode cX11_taken 27 = .ok (.ifCond .eq 6, 3) := by decide +kernel
theorem dX11_taken_30 : decode cX11_taken 30 = .ok (.bipush (-11), 2) := by decide +kernel
theorem dX11_taken_32 : decode cX11_taken 32 = .ok (.ireturn, 1) := by decide +kernel
theorem dX11_taken_33 : decode cX11_taken 33 = .ok (.aload_n 3, 1) := by decide +kernel
theorem dX11_taken_34 : decode cX11_taken 34 = .ok (.invokevirtual 326, 3) := by decide +kernel
theorem dX11_taken_37 : decode cX11_taken 37 = .ok (.ifCond .eq 7, 3) := by decide +kernel
theorem dX11_taken_40 : decode cX11_taken 40 = .ok (.iconst (-1), 1) := by decide +kernel
theorem dX11_taken_41 : decode cX11_taken 41 = .ok (.goto 14, 3) := by decide +kernel
theorem dX11_taken_44 : decode cX11_taken 44 = .ok (.aload_n 0, 1) := by decide +kernel
theorem dX11_taken_45 : decode cX11_taken 45 = .ok (.getfield 89, 3) := by decide +kernel
theorem dX11_taken_48 : decode cX11_taken 48 = .ok (.aload_n 3, 1) := by decide +kernel
theorem dX11_taken_49 : decode cX11_taken 49 = .ok (.getfield 345, 3) := by decide +kernel
theorem dX11_taken_52 : decode cX11_taken 52 = .ok (.invokevirtual 348, 3) := by decide +kernel
theorem dX11_taken_55 : decode cX11_taken 55 = .ok (.istore 4, 2) := by decide +kernel
theorem dX11_taken_57 : decode cX11_taken 57 = .ok (.iload 4, 2) := by decide +kernel
theorem dX11_taken_59 : decode cX11_taken 59 = .ok (.iload_n 2, 1) := by decide +kernel
theorem dX11_taken_60 : decode cX11_taken 60 = .ok (.invokestatic 351, 3) := by decide +kernel
theorem dX11_taken_63 : decode cX11_taken 63 = .ok (.ifCond .eq 8, 3) := by decide +kernel
theorem dX11_taken_66 : decode cX11_taken 66 = .ok (.iload 4, 2) := by decide +kernel
theorem dX11_taken_68 : decode cX11_taken 68 = .ok (.goto 5, 3) := by decide +kernel
theorem dX11_taken_71 : decode cX11_taken 71 = .ok (.bipush (-12), 2) := by decide +kernel
theorem dX11_taken_73 : decode cX11_taken 73 = .ok (.ireturn, 1) := by decide +kernel
theorem dX11_count_0 : decode cX11_count 0 = .ok (.iload_n 1, 1) := by decide +kernel
theorem dX11_count_1 : decode cX11_count 1 = .ok (.tableswitch 63 0 3 #[31, 39, 47, 55], 31) := by decide +kernel
theorem dX11_count_32 : decode cX11_count 32 = .ok (.aload_n 0, 1) := by decide +kernel
theorem dX11_count_33 : decode cX11_count 33 = .ok (.getfield 19, 3) := by decide +kernel
theorem dX11_count_36 : decode cX11_count 36 = .ok (.getfield 354, 3) := by decide +kernel
theorem dX11_count_39 : decode cX11_count 39 = .ok (.ireturn, 1) := by decide +kernel
theorem dX11_count_40 : decode cX11_count 40 = .ok (.aload_n 0, 1) := by decide +kernel
theorem dX11_count_41 : decode cX11_count 41 = .ok (.getfield 10, 3) := by decide +kernel
theorem dX11_count_44 : decode cX11_count 44 = .ok (.getfield 357, 3) := by decide +kernel
theorem dX11_count_47 : decode cX11_count 47 = .ok (.ireturn, 1) := by decide +kernel
theorem dX11_count_48 : decode cX11_count 48 = .ok (.aload_n 0, 1) := by decide +kernel
theorem dX11_count_49 : decode cX11_count 49 = .ok (.getfield 89, 3) := by decide +kernel
theorem dX11_count_52 : decode cX11_count 52 = .ok (.getfield 360, 3) := by decide +kernel
theorem dX11_count_55 : decode cX11_count 55 = .ok (.ireturn, 1) := by decide +kernel
theorem dX11_count_56 : decode cX11_count 56 = .ok (.aload_n 0, 1) := by decide +kernel
theorem dX11_count_57 : decode cX11_count 57 = .ok (.getfield 89, 3) := by decide +kernel
theorem dX11_count_60 : decode cX11_count 60 = .ok (.getfield 363, 3) := by decide +kernel
theorem dX11_count_63 : decode cX11_count 63 = .ok (.ireturn, 1) := by decide +kernel
theorem dX11_count_64 : decode cX11_count 64 = .ok (.iconst (-1), 1) := by decide +kernel
theorem dX11_count_65 : decode cX11_count 65 = .ok (.ireturn, 1) := by decide +kernel
theorem dX11_within_0 : decode cX11_within 0 = .ok (.iload_n 0, 1) := by decide +kernel
theorem dX11_within_1 : decode cX11_within 1 = .ok (.iload_n 1, 1) := by decide +kernel
theorem dX11_within_2 : decode cX11_within 2 = .ok (.if_icmp .lt 12, 3) := by decide +kernel
theorem dX11_within_5 : decode cX11_within 5 = .ok (.iload_n 0, 1) := by decide +kernel
theorem dX11_within_6 : decode cX11_within 6 = .ok (.iload_n 2, 1) := by decide +kernel
theorem dX11_within_7 : decode cX11_within 7 = .ok (.if_icmp .gt 7, 3) := by decide +kernel
theorem dX11_within_10 : decode cX11_within 10 = .ok (.iconst 1, 1) := by decide +kernel
theorem dX11_within_11 : decode cX11_within 11 = .ok (.goto 4, 3) := by decide +kernel
theorem dX11_within_14 : decode cX11_within 14 = .ok (.iconst 0, 1) := by decide +kernel
theorem dX11_within_15 : decode cX11_within 15 = .ok (.ireturn, 1) := by decide +kernel
set_option maxRecDepth 20000 in
theorem ggX11_isShelf_X11_within : GoodIn wsX11_isShelf wsX11_within := goodIn_r _ [4] (by decide +kernel) (by decide +kernel)
set_option maxRecDepth 20000 in
theorem gX11_isShelf_X11_within : GoodIn wsX11_isShelf (va_wsS RX11 122 yX11_within wsX11_within) := goodIn_app (goodIn_of _ (by decide +kernel)) ggX11_isShelf_X11_within
theorem dX11_isShelf_0 : decode cX11_isShelf 0 = .ok (.iload_n 0, 1) := by decide +kernel
theorem dX11_isShelf_1 : decode cX11_isShelf 1 = .ok (.iconst 0, 1) := by decide +kernel
theorem dX11_isShelf_2 : decode cX11_isShelf 2 = .ok (.iconst 5, 1) := by decide +kernel
theorem dX11_isShelf_3 : decode cX11_isShelf 3 = .ok (.invokestatic 122, 3) := by decide +kernel
theorem dX11_isShelf_6 : decode cX11_isShelf 6 = .ok (.ireturn, 1) := by decide +kernel
theorem dX11_commonDivisor_0 : decode cX11_commonDivisor 0 = .ok (.iload_n 0, 1) := by decide +kernel
theorem dX11_commonDivisor_1 : decode cX11_commonDivisor 1 = .ok (.istore_n 2, 1) := by decide +kernel
theorem dX11_commonDivisor_2 : decode cX11_commonDivisor 2 = .ok (.iload_n 1, 1) := by decide +kernel
theorem dX11_commonDivisor_3 : decode cX11_commonDivisor 3 = .ok (.istore_n 3, 1) := by decide +kernel
theorem dX11_commonDivisor_4 : decode cX11_commonDivisor 4 = .ok (.iconst 0, 1) := by decide +kernel
theorem dX11_commonDivisor_5 : decode cX11_commonDivisor 5 = .ok (.istore 4, 2) := by decide +kernel
theorem dX11_commonDivisor_7 : decode cX11_commonDivisor 7 = .ok (.iload 4, 2) := by decide +kernel
theorem dX11_commonDivisor_9 : decode cX11_commonDivisor 9 = .ok (.bipush 64, 2) := by decide +kernel
theorem dX11_commonDivisor_11 : decode cX11_commonDivisor 11 = .ok (.if_icmp .ge 23, 3) := by decide +kernel
theorem dX11_commonDivisor_14 : decode cX11_commonDivisor 14 = .ok (.iload_n 3, 1) := by decide +kernel
theorem dX11_commonDivisor_15 : decode cX11_commonDivisor 15 = .ok (.ifCond .eq 19, 3) := by decide +kernel
theorem dX11_commonDivisor_18 : decode cX11_commonDivisor 18 = .ok (.iload_n 2, 1) := by decide +kernel
theorem dX11_commonDivisor_19 : decode cX11_commonDivisor 19 = .ok (.iload_n 3, 1) := by decide +kernel
theorem dX11_commonDivisor_20 : decode cX11_commonDivisor 20 = .ok (.irem, 1) := by decide +kernel
theorem dX11_commonDivisor_21 : decode cX11_commonDivisor 21 = .ok (.istore 5, 2) := by decide +kernel
theorem dX11_commonDivisor_23 : decode cX11_commonDivisor 23 = .ok (.iload_n 3, 1) := by decide +kernel
theorem dX11_commonDivisor_24 : decode cX11_commonDivisor 24 = .ok (.istore_n 2, 1) := by decide +kernel
theorem dX11_commonDivisor_25 : decode cX11_commonDivisor 25 = .ok (.iload 5, 2) := by decide +kernel
theorem dX11_commonDivisor_27 : decode cX11_commonDivisor 27 = .ok (.istore_n 3, 1) := by decide +kernel
theorem dX11_commonDivisor_28 : decode cX11_commonDivisor 28 = .ok (.iinc 4 1, 3) := by decide +kernel
theorem dX11_commonDivisor_31 : decode cX11_commonDivisor 31 = .ok (.goto (-24), 3) := by decide +kernel
theorem dX11_commonDivisor_34 : decode cX11_commonDivisor 34 = .ok (.iload_n 2, 1) := by decide +kernel
theorem dX11_commonDivisor_35 : decode cX11_commonDivisor 35 = .ok (.ireturn, 1) := by decide +kernel
set_option maxRecDepth 20000 in
theorem ggX11_laddered_X11_within : GoodIn wsX11_laddered wsX11_within := goodIn_r _ [5] (by decide +kernel) (by decide +kernel)
set_option maxRecDepth 20000 in
theorem gX11_laddered_X11_within : GoodIn wsX11_laddered (va_wsS RX11 122 yX11_within wsX11_within) := goodIn_app (goodIn_of _ (by decide +kernel)) ggX11_laddered_X11_within
set_option maxRecDepth 20000 in
theorem ggX11_laddered_X2_cost : GoodIn wsX11_laddered wsX2_cost := goodIn_r _ [10, 11, 12, 13, 14, 9, 15, 21, 22, 23, 24, 25] (by decide +kernel) (by decide +kernel)
set_option maxRecDepth 20000 in
theorem gX11_laddered_X2_cost : GoodIn wsX11_laddered (wsV RX11 158 RX2 yX2_cost wsX2_cost) := goodIn_app (goodIn_of _ (by decide +kernel)) ggX11_laddered_X2_cost
set_option maxRecDepth 20000 in
theorem ggX11_laddered_X2_first : GoodIn wsX11_laddered wsX2_first := goodIn_r _ [19, 20, 13, 14, 9, 15, 21, 22, 23, 24, 25] (by decide +kernel) (by decide +kernel)
set_option maxRecDepth 20000 in
theorem gX11_laddered_X2_first : GoodIn wsX11_laddered (wsV RX11 366 RX2 yX2_first wsX2_first) := goodIn_app (goodIn_of _ (by decide +kernel)) ggX11_laddered_X2_first
theorem dX11_laddered_0 : decode cX11_laddered 0 = .ok (.iload_n 2, 1) := by decide +kernel
theorem dX11_laddered_1 : decode cX11_laddered 1 = .ok (.bipush 10, 2) := by decide +kernel
theorem dX11_laddered_3 : decode cX11_laddered 3 = .ok (.idiv, 1) := by decide +kernel
theorem dX11_laddered_4 : decode cX11_laddered 4 = .ok (.istore 4, 2) := by decide +kernel
theorem dX11_laddered_6 : decode cX11_laddered 6 = .ok (.iload_n 2, 1) := by decide +kernel
theorem dX11_laddered_7 : decode cX11_laddered 7 = .ok (.bipush 10, 2) := by decide +kernel
theorem dX11_laddered_9 : decode cX11_laddered 9 = .ok (.irem, 1) := by decide +kernel
theorem dX11_laddered_10 : decode cX11_laddered 10 = .ok (.istore 5, 2) := by decide +kernel
theorem dX11_laddered_12 : decode cX11_laddered 12 = .ok (.iload_n 2, 1) := by decide +kernel
theorem dX11_laddered_13 : decode cX11_laddered 13 = .ok (.ifCond .lt 30, 3) := by decide +kernel
theorem dX11_laddered_16 : decode cX11_laddered 16 = .ok (.iload 4, 2) := by decide +kernel
theorem dX11_laddered_18 : decode cX11_laddered 18 = .ok (.iconst 1, 1) := by decide +kernel
theorem dX11_laddered_19 : decode cX11_laddered 19 = .ok (.bipush 61, 2) := by decide +kernel
theorem dX11_laddered_21 : decode cX11_laddered 21 = .ok (.invokestatic 122, 3) := by decide +kernel
theorem dX11_laddered_24 : decode cX11_laddered 24 = .ok (.ifCond .eq 19, 3) := by decide +kernel
theorem dX11_laddered_27 : decode cX11_laddered 27 = .ok (.iload 5, 2) := by decide +kernel
theorem dX11_laddered_29 : decode cX11_laddered 29 = .ok (.bipush 6, 2) := by decide +kernel
theorem dX11_laddered_31 : decode cX11_laddered 31 = .ok (.if_icmp .gt 12, 3) := by decide +kernel
theorem dX11_laddered_34 : decode cX11_laddered 34 = .ok (.iload_n 3, 1) := by decide +kernel
theorem dX11_laddered_35 : decode cX11_laddered 35 = .ok (.iconst 0, 1) := by decide +kernel
theorem dX11_laddered_36 : decode cX11_laddered 36 = .ok (.iconst 1, 1) := by decide +kernel
theorem dX11_laddered_37 : decode cX11_laddered 37 = .ok (.invokestatic 122, 3) := by decide +kernel
theorem dX11_laddered_40 : decode cX11_laddered 40 = .ok (.ifCond .ne 5, 3) := by decide +kernel
theorem dX11_laddered_43 : decode cX11_laddered 43 = .ok (.iconst (-1), 1) := by decide +kernel
theorem dX11_laddered_44 : decode cX11_laddered 44 = .ok (.ireturn, 1) := by decide +kernel
theorem dX11_laddered_45 : decode cX11_laddered 45 = .ok (.aload_n 1, 1) := by decide +kernel
theorem dX11_laddered_46 : decode cX11_laddered 46 = .ok (.iload 5, 2) := by decide +kernel
theorem dX11_laddered_48 : decode cX11_laddered 48 = .ok (.iload 4, 2) := by decide +kernel
theorem dX11_laddered_50 : decode cX11_laddered 50 = .ok (.invokevirtual 158, 3) := by decide +kernel
theorem dX11_laddered_53 : decode cX11_laddered 53 = .ok (.istore 6, 2) := by decide +kernel
theorem dX11_laddered_55 : decode cX11_laddered 55 = .ok (.iload 6, 2) := by decide +kernel
theorem dX11_laddered_57 : decode cX11_laddered 57 = .ok (.ldc 163, 2) := by decide +kernel
theorem dX11_laddered_59 : decode cX11_laddered 59 = .ok (.if_icmp .ge 14, 3) := by decide +kernel
theorem dX11_laddered_62 : decode cX11_laddered 62 = .ok (.iload_n 3, 1) := by decide +kernel
theorem dX11_laddered_63 : decode cX11_laddered 63 = .ok (.iconst 1, 1) := by decide +kernel
theorem dX11_laddered_64 : decode cX11_laddered 64 = .ok (.if_icmp .ne 12, 3) := by decide +kernel
theorem dX11_laddered_67 : decode cX11_laddered 67 = .ok (.iload 4, 2) := by decide +kernel
theorem dX11_laddered_69 : decode cX11_laddered 69 = .ok (.iconst 1, 1) := by decide +kernel
theorem dX11_laddered_70 : decode cX11_laddered 70 = .ok (.if_icmp .ne 6, 3) := by decide +kernel
theorem dX11_laddered_73 : decode cX11_laddered 73 = .ok (.bipush (-2), 2) := by decide +kernel
theorem dX11_laddered_75 : decode cX11_laddered 75 = .ok (.ireturn, 1) := by decide +kernel
theorem dX11_laddered_76 : decode cX11_laddered 76 = .ok (.iload_n 3, 1) := by decide +kernel
theorem dX11_laddered_77 : decode cX11_laddered 77 = .ok (.ifCond .ne 8, 3) := by decide +kernel
theorem dX11_laddered_80 : decode cX11_laddered 80 = .ok (.iload 6, 2) := by decide +kernel
theorem dX11_laddered_82 : decode cX11_laddered 82 = .ok (.goto 11, 3) := by decide +kernel
theorem dX11_laddered_85 : decode cX11_laddered 85 = .ok (.aload_n 1, 1) := by decide +kernel
theorem dX11_laddered_86 : decode cX11_laddered 86 = .ok (.iload 5, 2) := by decide +kernel
theorem dX11_laddered_88 : decode cX11_laddered 88 = .ok (.iload 4, 2) := by decide +kernel
theorem dX11_laddered_90 : decode cX11_laddered 90 = .ok (.invokevirtual 366, 3) := by decide +kernel
theorem dX11_laddered_93 : decode cX11_laddered 93 = .ok (.ireturn, 1) := by decide +kernel
set_option maxRecDepth 20000 in
theorem ggX11_asksSpan_X8_steps : GoodIn wsX11_asksSpan wsX8_steps := goodIn_r _ [7, 8, 38, 39, 40, 41, 42, 43] (by decide +kernel) (by decide +kernel)
set_option maxRecDepth 20000 in
theorem gX11_asksSpan_X8_steps : GoodIn wsX11_asksSpan (wsV RX11 119 RX8 yX8_steps wsX8_steps) := goodIn_app (goodIn_of _ (by decide +kernel)) ggX11_asksSpan_X8_steps
set_option maxRecDepth 20000 in
theorem ggX11_asksSpan_X11_within : GoodIn wsX11_asksSpan wsX11_within := goodIn_r _ [12] (by decide +kernel) (by decide +kernel)
set_option maxRecDepth 20000 in
theorem gX11_asksSpan_X11_within : GoodIn wsX11_asksSpan (va_wsS RX11 122 yX11_within wsX11_within) := goodIn_app (goodIn_of _ (by decide +kernel)) ggX11_asksSpan_X11_within
set_option maxRecDepth 20000 in
theorem ggX11_asksSpan_X7_become : GoodIn wsX11_asksSpan wsX7_become := goodIn_r _ [17, 18, 19, 20, 44, 45, 46] (by decide +kernel) (by decide +kernel)
set_option maxRecDepth 20000 in
theorem gX11_asksSpan_X7_become : GoodIn wsX11_asksSpan (wsV RX11 369 RX7 yX7_become wsX7_become) := goodIn_app (goodIn_of _ (by decide +kernel)) ggX11_asksSpan_X7_become
theorem dX11_asksSpan_0 : decode cX11_asksSpan 0 = .ok (.iload_n 1, 1) := by decide +kernel
theorem dX11_asksSpan_1 : decode cX11_asksSpan 1 = .ok (.bipush 100, 2) := by decide +kernel
theorem dX11_asksSpan_3 : decode cX11_asksSpan 3 = .ok (.idiv, 1) := by decide +kernel
theorem dX11_asksSpan_4 : decode cX11_asksSpan 4 = .ok (.istore_n 3, 1) := by decide +kernel
theorem dX11_asksSpan_5 : decode cX11_asksSpan 5 = .ok (.iload_n 1, 1) := by decide +kernel
theorem dX11_asksSpan_6 : decode cX11_asksSpan 6 = .ok (.bipush 100, 2) := by decide +kernel
theorem dX11_asksSpan_8 : decode cX11_asksSpan 8 = .ok (.irem, 1) := by decide +kernel
theorem dX11_asksSpan_9 : decode cX11_asksSpan 9 = .ok (.istore 4, 2) := by decide +kernel
theorem dX11_asksSpan_11 : decode cX11_asksSpan 11 = .ok (.iload_n 1, 1) := by decide +kernel
theorem dX11_asksSpan_12 : decode cX11_asksSpan 12 = .ok (.ifCond .lt 31, 3) := by decide +kernel
theorem dX11_asksSpan_15 : decode cX11_asksSpan 15 = .ok (.iload_n 3, 1) := by decide +kernel
theorem dX11_asksSpan_16 : decode cX11_asksSpan 16 = .ok (.iload 4, 2) := by decide +kernel
theorem dX11_asksSpan_18 : decode cX11_asksSpan 18 = .ok (.if_icmp .gt 25, 3) := by decide +kernel
theorem dX11_asksSpan_21 : decode cX11_asksSpan 21 = .ok (.iload 4, 2) := by decide +kernel
theorem dX11_asksSpan_23 : decode cX11_asksSpan 23 = .ok (.aload_n 0, 1) := by decide +kernel
theorem dX11_asksSpan_24 : decode cX11_asksSpan 24 = .ok (.getfield 10, 3) := by decide +kernel
theorem dX11_asksSpan_27 : decode cX11_asksSpan 27 = .ok (.invokevirtual 119, 3) := by decide +kernel
theorem dX11_asksSpan_30 : decode cX11_asksSpan 30 = .ok (.if_icmp .gt 13, 3) := by decide +kernel
theorem dX11_asksSpan_33 : decode cX11_asksSpan 33 = .ok (.iload_n 2, 1) := by decide +kernel
theorem dX11_asksSpan_34 : decode cX11_asksSpan 34 = .ok (.iconst 0, 1) := by decide +kernel
theorem dX11_asksSpan_35 : decode cX11_asksSpan 35 = .ok (.bipush 6, 2) := by decide +kernel
theorem dX11_asksSpan_37 : decode cX11_asksSpan 37 = .ok (.invokestatic 122, 3) := by decide +kernel
theorem dX11_asksSpan_40 : decode cX11_asksSpan 40 = .ok (.ifCond .ne 5, 3) := by decide +kernel
theorem dX11_asksSpan_43 : decode cX11_asksSpan 43 = .ok (.iconst 0, 1) := by decide +kernel
theorem dX11_asksSpan_44 : decode cX11_asksSpan 44 = .ok (.ireturn, 1) := by decide +kernel
theorem dX11_asksSpan_45 : decode cX11_asksSpan 45 = .ok (.aload_n 0, 1) := by decide +kernel
theorem dX11_asksSpan_46 : decode cX11_asksSpan 46 = .ok (.getfield 62, 3) := by decide +kernel
theorem dX11_asksSpan_49 : decode cX11_asksSpan 49 = .ok (.iload_n 3, 1) := by decide +kernel
theorem dX11_asksSpan_50 : decode cX11_asksSpan 50 = .ok (.iload 4, 2) := by decide +kernel
theorem dX11_asksSpan_52 : decode cX11_asksSpan 52 = .ok (.iload_n 2, 1) := by decide +kernel
theorem dX11_asksSpan_53 : decode cX11_asksSpan 53 = .ok (.invokevirtual 369, 3) := by decide +kernel
theorem dX11_asksSpan_56 : decode cX11_asksSpan 56 = .ok (.iconst 1, 1) := by decide +kernel
theorem dX11_asksSpan_57 : decode cX11_asksSpan 57 = .ok (.ireturn, 1) := by decide +kernel
set_option maxRecDepth 20000 in
theorem ggX11_firstByMean_X4_weightOf : GoodIn wsX11_firstByMean wsX4_weightOf := goodIn_r _ [7, 8, 9, 10, 6, 11, 12, 13, 14, 15, 94, 95, 96, 97, 98, 99, 100, 101, 102, 103, 104] (by decide +kernel) (by decide +kernel)
set_option maxRecDepth 20000 in
theorem gX11_firstByMean_X4_weightOf : GoodIn wsX11_firstByMean (wsV RX11 148 RX4 yX4_weightOf wsX4_weightOf) := goodIn_app (goodIn_of _ (by decide +kernel)) ggX11_firstByMean_X4_weightOf
set_option maxRecDepth 20000 in
theorem ggX11_firstByMean_X2_prepare : GoodIn wsX11_firstByMean wsX2_prepare := goodIn_r _ [20, 21, 22, 23, 24, 25, 19, 26, 27, 28, 29, 30, 31, 32, 33, 34, 35, 36, 37, 38, 39, 40, 41, 105, 106, 107, 108, 109] (by decide +kernel) (by decide +kernel)
set_option maxRecDepth 20000 in
theorem gX11_firstByMean_X2_prepare : GoodIn wsX11_firstByMean (wsV RX11 133 RX2 yX2_prepare wsX2_prepare) := goodIn_app (goodIn_of _ (by decide +kernel)) ggX11_firstByMean_X2_prepare
set_option maxRecDepth 20000 in
theorem ggX11_firstByMean_X7_heights : GoodIn wsX11_firstByMean wsX7_heights := goodIn_r _ [46, 47, 48, 94, 95, 96] (by decide +kernel) (by decide +kernel)
set_option maxRecDepth 20000 in
theorem gX11_firstByMean_X7_heights : GoodIn wsX11_firstByMean (wsV RX11 155 RX7 yX7_heights wsX7_heights) := goodIn_app (goodIn_of _ (by decide +kernel)) ggX11_firstByMean_X7_heights
set_option maxRecDepth 20000 in
theorem ggX11_firstByMean_X2_first : GoodIn wsX11_firstByMean wsX2_first := goodIn_r _ [52, 29, 39, 40, 19, 41, 105, 106, 107, 108, 109] (by decide +kernel) (by decide +kernel)
set_option maxRecDepth 20000 in
theorem gX11_firstByMean_X2_first : GoodIn wsX11_firstByMean (wsV RX11 366 RX2 yX2_first wsX2_first) := goodIn_app (goodIn_of _ (by decide +kernel)) ggX11_firstByMean_X2_first
set_option maxRecDepth 20000 in
theorem ggX11_firstByMean_X4_first : GoodIn wsX11_firstByMean wsX4_first := goodIn_r _ [56, 57, 58, 59, 60, 6, 61, 62, 63, 36, 37, 38, 13, 14, 15, 64, 65, 66, 67, 68, 69, 70, 71, 72, 73, 74, 75, 76, 12, 97, 98, 99, 100, 101, 102, 103, 104, 94, 95, 96] (by decide +kernel) (by decide +kernel)
set_option maxRecDepth 20000 in
theorem gX11_firstByMean_X4_first : GoodIn wsX11_firstByMean (wsV RX11 371 RX4 yX4_first wsX4_first) := goodIn_app (goodIn_of _ (by decide +kernel)) ggX11_firstByMean_X4_first
theorem dX11_firstByMean_0 : decode cX11_firstByMean 0 = .ok (.aload_n 0, 1) := by decide +kernel
theorem dX11_firstByMean_1 : decode cX11_firstByMean 1 = .ok (.getfield 41, 3) := by decide +kernel
theorem dX11_firstByMean_4 : decode cX11_firstByMean 4 = .ok (.aload_n 1, 1) := by decide +kernel
theorem dX11_firstByMean_5 : decode cX11_firstByMean 5 = .ok (.invokevirtual 148, 3) := by decide +kernel
theorem dX11_firstByMean_8 : decode cX11_firstByMean 8 = .ok (.ifCond .ne 33, 3) := by decide +kernel
theorem dX11_firstByMean_11 : decode cX11_firstByMean 11 = .ok (.aload_n 0, 1) := by decide +kernel
theorem dX11_firstByMean_12 : decode cX11_firstByMean 12 = .ok (.getfield 35, 3) := by decide +kernel
theorem dX11_firstByMean_15 : decode cX11_firstByMean 15 = .ok (.iconst 1, 1) := by decide +kernel
theorem dX11_firstByMean_16 : decode cX11_firstByMean 16 = .ok (.iconst 0, 1) := by decide +kernel
theorem dX11_firstByMean_17 : decode cX11_firstByMean 17 = .ok (.invokevirtual 133, 3) := by decide +kernel
theorem dX11_firstByMean_20 : decode cX11_firstByMean 20 = .ok (.aload_n 1, 1) := by decide +kernel
theorem dX11_firstByMean_21 : decode cX11_firstByMean 21 = .ok (.getfield 221, 3) := by decide +kernel
theorem dX11_firstByMean_24 : decode cX11_firstByMean 24 = .ok (.aload_n 0, 1) := by decide +kernel
theorem dX11_firstByMean_25 : decode cX11_firstByMean 25 = .ok (.getfield 35, 3) := by decide +kernel
theorem dX11_firstByMean_28 : decode cX11_firstByMean 28 = .ok (.aload_n 1, 1) := by decide +kernel
theorem dX11_firstByMean_29 : decode cX11_firstByMean 29 = .ok (.getfield 152, 3) := by decide +kernel
theorem dX11_firstByMean_32 : decode cX11_firstByMean 32 = .ok (.aload_n 1, 1) := by decide +kernel
theorem dX11_firstByMean_33 : decode cX11_firstByMean 33 = .ok (.invokevirtual 155, 3) := by decide +kernel
theorem dX11_firstByMean_36 : decode cX11_firstByMean 36 = .ok (.invokevirtual 366, 3) := by decide +kernel
theorem dX11_firstByMean_39 : decode cX11_firstByMean 39 = .ok (.iadd, 1) := by decide +kernel
theorem dX11_firstByMean_40 : decode cX11_firstByMean 40 = .ok (.ireturn, 1) := by decide +kernel
theorem dX11_firstByMean_41 : decode cX11_firstByMean 41 = .ok (.aload_n 0, 1) := by decide +kernel
theorem dX11_firstByMean_42 : decode cX11_firstByMean 42 = .ok (.getfield 41, 3) := by decide +kernel
theorem dX11_firstByMean_45 : decode cX11_firstByMean 45 = .ok (.aload_n 1, 1) := by decide +kernel
theorem dX11_firstByMean_46 : decode cX11_firstByMean 46 = .ok (.invokevirtual 371, 3) := by decide +kernel
theorem dX11_firstByMean_49 : decode cX11_firstByMean 49 = .ok (.ireturn, 1) := by decide +kernel
set_option maxRecDepth 20000 in
theorem ggX11_walks_X2_prepare : GoodIn wsX11_walks wsX2_prepare := goodIn_r _ [10, 11, 12, 13, 14, 15, 9, 16, 17, 18, 19, 20, 21, 22, 23, 24, 25, 26, 27, 28, 29, 30, 31, 194, 195, 196, 197, 198] (by decide +kernel) (by decide +kernel)
set_option maxRecDepth 20000 in
theorem gX11_walks_X2_prepare : GoodIn wsX11_walks (wsV RX11 133 RX2 yX2_prepare wsX2_prepare) := goodIn_app (goodIn_of _ (by decide +kernel)) ggX11_walks_X2_prepare
set_option maxRecDepth 20000 in
theorem ggX11_walks_X4_weigh : GoodIn wsX11_walks wsX4_weigh := goodIn_r _ [36, 37, 38, 39, 40, 41, 42, 43, 44, 45, 46, 47, 48, 49, 50, 51, 52, 53, 54, 55, 56, 57, 58, 59, 27, 60, 61, 26, 28, 62, 63, 64, 65, 66, 67, 68, 69, 70, 71, 72, 73, 74, 75, 76, 77, 78, 79, 80, 81, 82, 83, 84, 85, 86, 35, 87, 88, 89, 199, 200, 201, 202, 203, 204, 205, 206, 207, 208, 209, 210, 211, 212, 213, 214, 215, 216, 217, 218, 219, 220, 221, 222] (by decide +kernel) (by decide +kernel)
set_option maxRecDepth 20000 in
theorem gX11_walks_X4_weigh : GoodIn wsX11_walks (wsV RX11 144 RX4 yX4_weigh wsX4_weigh) := goodIn_app (goodIn_of _ (by decide +kernel)) ggX11_walks_X4_weigh
set_option maxRecDepth 20000 in
theorem ggX11_walks_X8_steps : GoodIn wsX11_walks wsX8_steps := goodIn_r _ [46, 47, 217, 218, 219, 220, 221, 222] (by decide +kernel) (by decide +kernel)
set_option maxRecDepth 20000 in
theorem gX11_walks_X8_steps : GoodIn wsX11_walks (wsV RX11 119 RX8 yX8_steps wsX8_steps) := goodIn_app (goodIn_of _ (by decide +kernel)) ggX11_walks_X8_steps
set_option maxRecDepth 20000 in
theorem ggX11_walks_X8_jars : GoodIn wsX11_walks wsX8_jars := goodIn_r _ [51, 47, 217, 218, 219, 220, 221, 222] (by decide +kernel) (by decide +kernel)
set_option maxRecDepth 20000 in
theorem gX11_walks_X8_jars : GoodIn wsX11_walks (wsV RX11 126 RX8 yX8_jars wsX8_jars) := goodIn_app (goodIn_of _ (by decide +kernel)) ggX11_walks_X8_jars
set_option maxRecDepth 20000 in
theorem ggX11_walks_X10_begin : GoodIn wsX11_walks wsX10_begin := goodIn_r _ [96, 97, 98, 99, 100, 101, 102, 103, 104, 105, 106, 107, 187, 188, 189, 190, 191, 192, 193] (by decide +kernel) (by decide +kernel)
set_option maxRecDepth 20000 in
theorem gX11_walks_X10_begin : GoodIn wsX11_walks (wsV RX11 374 RX10 yX10_begin wsX10_begin) := goodIn_app (goodIn_of _ (by decide +kernel)) ggX11_walks_X10_begin
set_option maxRecDepth 20000 in
theorem ggX11_walks_X7_isSure : GoodIn wsX11_walks wsX7_isSure := goodIn_r _ [111, 105, 106, 191, 192, 193] (by decide +kernel) (by decide +kernel)
set_option maxRecDepth 20000 in
theorem gX11_walks_X7_isSure : GoodIn wsX11_walks (wsV RX11 172 RX7 yX7_isSure wsX7_isSure) := goodIn_app (goodIn_of _ (by decide +kernel)) ggX11_walks_X7_isSure
set_option maxRecDepth 20000 in
theorem ggX11_walks_X7_heights : GoodIn wsX11_walks wsX7_heights := goodIn_r _ [115, 106, 105, 191, 192, 193] (by decide +kernel) (by decide +kernel)
set_option maxRecDepth 20000 in
theorem gX11_walks_X7_heights : GoodIn wsX11_walks (wsV RX11 155 RX7 yX7_heights wsX7_heights) := goodIn_app (goodIn_of _ (by decide +kernel)) ggX11_walks_X7_heights
set_option maxRecDepth 20000 in
theorem ggX11_walks_X2_first : GoodIn wsX11_walks wsX2_first := goodIn_r _ [119, 19, 29, 30, 9, 31, 194, 195, 196, 197, 198] (by decide +kernel) (by decide +kernel)
set_option maxRecDepth 20000 in
theorem gX11_walks_X2_first : GoodIn wsX11_walks (wsV RX11 366 RX2 yX2_first wsX2_first) := goodIn_app (goodIn_of _ (by decide +kernel)) ggX11_walks_X2_first
set_option maxRecDepth 20000 in
theorem ggX11_walks_X11_firstByMean : GoodIn wsX11_walks wsX11_firstByMean := goodIn_r _ [124, 2, 125, 126, 127, 128, 35, 129, 130, 131, 132, 133, 41, 134, 123, 135, 6, 7, 8, 9, 10, 11, 12, 13, 14, 15, 16, 17, 18, 19, 20, 21, 22, 23, 24, 25, 26, 27, 28, 29, 30, 31, 112, 113, 114, 103, 115, 106, 105, 116, 117, 118, 119, 136, 137, 138, 139, 140, 141, 142, 143, 144, 88, 145, 146, 147, 148, 149, 150, 151, 152, 153, 154, 155, 156, 157, 158, 170, 171, 172, 173, 174, 175, 176, 177, 178, 179, 180, 181, 182, 183, 184, 185, 186, 191, 192, 193, 209, 210, 211, 212, 213, 214, 215, 216, 194, 195, 196, 197, 198] (by decide +kernel) (by decide +kernel)
set_option maxRecDepth 20000 in
theorem gX11_walks_X11_firstByMean : GoodIn wsX11_walks (wsV RX11 176 RX11 yX11_firstByMean wsX11_firstByMean) := goodIn_app (goodIn_of _ (by decide +kernel)) ggX11_walks_X11_firstByMean
set_option maxRecDepth 20000 in
theorem ggX11_walks_X10_add : GoodIn wsX11_walks wsX10_add := goodIn_r _ [162, 98, 163, 99, 97, 164, 165, 166, 103, 167, 106, 168, 59, 27, 60, 107, 105, 169, 26, 28, 187, 188, 189, 190, 191, 192, 193] (by decide +kernel) (by decide +kernel)
set_option maxRecDepth 20000 in
theorem gX11_walks_X10_add : GoodIn wsX11_walks (wsV RX11 376 RX10 yX10_add wsX10_add) := goodIn_app (goodIn_of _ (by decide +kernel)) ggX11_walks_X10_add
theorem dX11_walks_0 : decode cX11_walks 0 = .ok (.aload_n 0, 1) := by decide +kernel
theorem dX11_walks_1 : decode cX11_walks 1 = .ok (.getfield 28, 3) := by decide +kernel
theorem dX11_walks_4 : decode cX11_walks 4 = .ok (.iconst 1, 1) := by decide +kernel
theorem dX11_walks_5 : decode cX11_walks 5 = .ok (.iconst 0, 1) := by decide +kernel
theorem dX11_walks_6 : decode cX11_walks 6 = .ok (.invokevirtual 133, 3) := by decide +kernel
theorem dX11_walks_9 : decode cX11_walks 9 = .ok (.aload_n 0, 1) := by decide +kernel
theorem dX11_walks_10 : decode cX11_walks 10 = .ok (.getfield 41, 3) := by decide +kernel
theorem dX11_walks_13 : decode cX11_walks 13 = .ok (.aload_n 0, 1) := by decide +kernel
theorem dX11_walks_14 : decode cX11_walks 14 = .ok (.getfield 19, 3) := by decide +kernel
theorem dX11_walks_17 : decode cX11_walks 17 = .ok (.aload_n 0, 1) := by decide +kernel
theorem dX11_walks_18 : decode cX11_walks 18 = .ok (.getfield 10, 3) := by decide +kernel
theorem dX11_walks_21 : decode cX11_walks 21 = .ok (.invokevirtual 144, 3) := by decide +kernel
theorem dX11_walks_24 : decode cX11_walks 24 = .ok (.aload_n 0, 1) := by decide +kernel
theorem dX11_walks_25 : decode cX11_walks 25 = .ok (.getfield 69, 3) := by decide +kernel
theorem dX11_walks_28 : decode cX11_walks 28 = .ok (.getfield 373, 3) := by decide +kernel
theorem dX11_walks_31 : decode cX11_walks 31 = .ok (.astore_n 3, 1) := by decide +kernel
theorem dX11_walks_32 : decode cX11_walks 32 = .ok (.aload_n 0, 1) := by decide +kernel
theorem dX11_walks_33 : decode cX11_walks 33 = .ok (.getfield 69, 3) := by decide +kernel
theorem dX11_walks_36 : decode cX11_walks 36 = .ok (.aload_n 0, 1) := by decide +kernel
theorem dX11_walks_37 : decode cX11_walks 37 = .ok (.getfield 10, 3) := by decide +kernel
theorem dX11_walks_40 : decode cX11_walks 40 = .ok (.invokevirtual 119, 3) := by decide +kernel
theorem dX11_walks_43 : decode cX11_walks 43 = .ok (.aload_n 0, 1) := by decide +kernel
theorem dX11_walks_44 : decode cX11_walks 44 = .ok (.getfield 10, 3) := by decide +kernel
theorem dX11_walks_47 : decode cX11_walks 47 = .ok (.invokevirtual 126, 3) := by decide +kernel
theorem dX11_walks_50 : decode cX11_walks 50 = .ok (.invokevirtual 374, 3) := by decide +kernel
theorem dX11_walks_53 : decode cX11_walks 53 = .ok (.iconst 0, 1) := by decide +kernel
theorem dX11_walks_54 : decode cX11_walks 54 = .ok (.istore 4, 2) := by decide +kernel
theorem dX11_walks_56 : decode cX11_walks 56 = .ok (.iload 4, 2) := by decide +kernel
theorem dX11_walks_58 : decode cX11_walks 58 = .ok (.bipush 60, 2) := by decide +kernel
theorem dX11_walks_60 : decode cX11_walks 60 = .ok (.if_icmp .ge 69, 3) := by decide +kernel
theorem dX11_walks_63 : decode cX11_walks 63 = .ok (.aload_n 3, 1) := by decide +kernel
theorem dX11_walks_64 : decode cX11_walks 64 = .ok (.invokevirtual 172, 3) := by decide +kernel
theorem dX11_walks_67 : decode cX11_walks 67 = .ok (.ifCond .ne 62, 3) := by decide +kernel
theorem dX11_walks_70 : decode cX11_walks 70 = .ok (.aload_n 3, 1) := by decide +kernel
theorem dX11_walks_71 : decode cX11_walks 71 = .ok (.getfield 152, 3) := by decide +kernel
theorem dX11_walks_74 : decode cX11_walks 74 = .ok (.ifCond .ne 5, 3) := by decide +kernel
theorem dX11_walks_77 : decode cX11_walks 77 = .ok (.iconst 0, 1) := by decide +kernel
theorem dX11_walks_78 : decode cX11_walks 78 = .ok (.ireturn, 1) := by decide +kernel
theorem dX11_walks_79 : decode cX11_walks 79 = .ok (.iload_n 1, 1) := by decide +kernel
theorem dX11_walks_80 : decode cX11_walks 80 = .ok (.ifCond .ne 26, 3) := by decide +kernel
theorem dX11_walks_83 : decode cX11_walks 83 = .ok (.aload_n 3, 1) := by decide +kernel
theorem dX11_walks_84 : decode cX11_walks 84 = .ok (.getfield 221, 3) := by decide +kernel
theorem dX11_walks_87 : decode cX11_walks 87 = .ok (.aload_n 0, 1) := by decide +kernel
theorem dX11_walks_88 : decode cX11_walks 88 = .ok (.getfield 28, 3) := by decide +kernel
theorem dX11_walks_91 : decode cX11_walks 91 = .ok (.aload_n 3, 1) := by decide +kernel
theorem dX11_walks_92 : decode cX11_walks 92 = .ok (.getfield 152, 3) := by decide +kernel
theorem dX11_walks_95 : decode cX11_walks 95 = .ok (.aload_n 3, 1) := by decide +kernel
theorem dX11_walks_96 : decode cX11_walks 96 = .ok (.invokevirtual 155, 3) := by decide +kernel
theorem dX11_walks_99 : decode cX11_walks 99 = .ok (.invokevirtual 366, 3) := by decide +kernel
theorem dX11_walks_102 : decode cX11_walks 102 = .ok (.iadd, 1) := by decide +kernel
theorem dX11_walks_103 : decode cX11_walks 103 = .ok (.goto 8, 3) := by decide +kernel
theorem dX11_walks_106 : decode cX11_walks 106 = .ok (.aload_n 0, 1) := by decide +kernel
theorem dX11_walks_107 : decode cX11_walks 107 = .ok (.aload_n 3, 1) := by decide +kernel
theorem dX11_walks_108 : decode cX11_walks 108 = .ok (.invokevirtual 176, 3) := by decide +kernel
theorem dX11_walks_111 : decode cX11_walks 111 = .ok (.istore 5, 2) := by decide +kernel
theorem dX11_walks_113 : decode cX11_walks 113 = .ok (.aload_n 0, 1) := by decide +kernel
theorem dX11_walks_114 : decode cX11_walks 114 = .ok (.getfield 69, 3) := by decide +kernel
theorem dX11_walks_117 : decode cX11_walks 117 = .ok (.iload 5, 2) := by decide +kernel
theorem dX11_walks_119 : decode cX11_walks 119 = .ok (.iload_n 2, 1) := by decide +kernel
theorem dX11_walks_120 : decode cX11_walks 120 = .ok (.invokevirtual 376, 3) := by decide +kernel
theorem dX11_walks_123 : decode cX11_walks 123 = .ok (.iinc 4 1, 3) := by decide +kernel
theorem dX11_walks_126 : decode cX11_walks 126 = .ok (.goto (-70), 3) := by decide +kernel
theorem dX11_walks_129 : decode cX11_walks 129 = .ok (.aload_n 3, 1) := by decide +kernel
theorem dX11_walks_130 : decode cX11_walks 130 = .ok (.invokevirtual 172, 3) := by decide +kernel
theorem dX11_walks_133 : decode cX11_walks 133 = .ok (.ireturn, 1) := by decide +kernel
set_option maxRecDepth 20000 in
theorem ggX11_refusesBytes_X11_isShelf : GoodIn wsX11_refusesBytes wsX11_isShelf := goodIn_r _ [5, 6, 7, 4, 8] (by decide +kernel) (by decide +kernel)
set_option maxRecDepth 20000 in
theorem gX11_refusesBytes_X11_isShelf : GoodIn wsX11_refusesBytes (va_wsS RX11 254 yX11_isShelf wsX11_isShelf) := goodIn_app (goodIn_of _ (by decide +kernel)) ggX11_refusesBytes_X11_isShelf
set_option maxRecDepth 20000 in
theorem ggX11_refusesBytes_X6_isEmpty : GoodIn wsX11_refusesBytes wsX6_isEmpty := goodIn_r _ [13, 14, 15, 37, 38, 39, 40] (by decide +kernel) (by decide +kernel)
set_option maxRecDepth 20000 in
theorem gX11_refusesBytes_X6_isEmpty : GoodIn wsX11_refusesBytes (wsV RX11 323 RX6 yX6_isEmpty wsX6_isEmpty) := goodIn_app (goodIn_of _ (by decide +kernel)) ggX11_refusesBytes_X6_isEmpty
set_option maxRecDepth 20000 in
theorem ggX11_refusesBytes_X6_isRow : GoodIn wsX11_refusesBytes wsX6_isRow := goodIn_r _ [19, 15, 37, 38, 39, 40] (by decide +kernel) (by decide +kernel)
set_option maxRecDepth 20000 in
theorem gX11_refusesBytes_X6_isRow : GoodIn wsX11_refusesBytes (wsV RX11 326 RX6 yX6_isRow wsX6_isRow) := goodIn_app (goodIn_of _ (by decide +kernel)) ggX11_refusesBytes_X6_isRow
theorem dX11_refusesBytes_0 : decode cX11_refusesBytes 0 = .ok (.iload_n 1, 1) := by decide +kernel
theorem dX11_refusesBytes_1 : decode cX11_refusesBytes 1 = .ok (.invokestatic 254, 3) := by decide +kernel
theorem dX11_refusesBytes_4 : decode cX11_refusesBytes 4 = .ok (.ifCond .ne 5, 3) := by decide +kernel
theorem dX11_refusesBytes_7 : decode cX11_refusesBytes 7 = .ok (.iconst (-1), 1) := by decide +kernel
theorem dX11_refusesBytes_8 : decode cX11_refusesBytes 8 = .ok (.ireturn, 1) := by decide +kernel
theorem dX11_refusesBytes_9 : decode cX11_refusesBytes 9 = .ok (.aload_n 0, 1) := by decide +kernel
theorem dX11_refusesBytes_10 : decode cX11_refusesBytes 10 = .ok (.getfield 95, 3) := by decide +kernel
theorem dX11_refusesBytes_13 : decode cX11_refusesBytes 13 = .ok (.iload_n 1, 1) := by decide +kernel
theorem dX11_refusesBytes_14 : decode cX11_refusesBytes 14 = .ok (.aaload, 1) := by decide +kernel
theorem dX11_refusesBytes_15 : decode cX11_refusesBytes 15 = .ok (.invokevirtual 323, 3) := by decide +kernel
theorem dX11_refusesBytes_18 : decode cX11_refusesBytes 18 = .ok (.ifCond .eq 6, 3) := by decide +kernel
theorem dX11_refusesBytes_21 : decode cX11_refusesBytes 21 = .ok (.bipush (-11), 2) := by decide +kernel
theorem dX11_refusesBytes_23 : decode cX11_refusesBytes 23 = .ok (.ireturn, 1) := by decide +kernel
theorem dX11_refusesBytes_24 : decode cX11_refusesBytes 24 = .ok (.aload_n 0, 1) := by decide +kernel
theorem dX11_refusesBytes_25 : decode cX11_refusesBytes 25 = .ok (.getfield 95, 3) := by decide +kernel
theorem dX11_refusesBytes_28 : decode cX11_refusesBytes 28 = .ok (.iload_n 1, 1) := by decide +kernel
theorem dX11_refusesBytes_29 : decode cX11_refusesBytes 29 = .ok (.aaload, 1) := by decide +kernel
theorem dX11_refusesBytes_30 : decode cX11_refusesBytes 30 = .ok (.invokevirtual 326, 3) := by decide +kernel
theorem dX11_refusesBytes_33 : decode cX11_refusesBytes 33 = .ok (.ifCond .eq 19, 3) := by decide +kernel
theorem dX11_refusesBytes_36 : decode cX11_refusesBytes 36 = .ok (.aload_n 0, 1) := by decide +kernel
theorem dX11_refusesBytes_37 : decode cX11_refusesBytes 37 = .ok (.getfield 95, 3) := by decide +kernel
theorem dX11_refusesBytes_40 : decode cX11_refusesBytes 40 = .ok (.iload_n 1, 1) := by decide +kernel
theorem dX11_refusesBytes_41 : decode cX11_refusesBytes 41 = .ok (.aaload, 1) := by decide +kernel
theorem dX11_refusesBytes_42 : decode cX11_refusesBytes 42 = .ok (.getfield 329, 3) := by decide +kernel
theorem dX11_refusesBytes_45 : decode cX11_refusesBytes 45 = .ok (.ifCond .ne 7, 3) := by decide +kernel
theorem dX11_refusesBytes_48 : decode cX11_refusesBytes 48 = .ok (.iconst 0, 1) := by decide +kernel
theorem dX11_refusesBytes_49 : decode cX11_refusesBytes 49 = .ok (.goto 5, 3) := by decide +kernel
theorem dX11_refusesBytes_52 : decode cX11_refusesBytes 52 = .ok (.bipush (-12), 2) := by decide +kernel
theorem dX11_refusesBytes_54 : decode cX11_refusesBytes 54 = .ok (.ireturn, 1) := by decide +kernel
set_option maxRecDepth 20000 in
theorem ggX11_refusesPlace_X11_isShelf : GoodIn wsX11_refusesPlace wsX11_isShelf := goodIn_r _ [5, 6, 7, 4, 8] (by decide +kernel) (by decide +kernel)
set_option maxRecDepth 20000 in
theorem gX11_refusesPlace_X11_isShelf : GoodIn wsX11_refusesPlace (va_wsS RX11 254 yX11_isShelf wsX11_isShelf) := goodIn_app (goodIn_of _ (by decide +kernel)) ggX11_refusesPlace_X11_isShelf
set_option maxRecDepth 20000 in
theorem ggX11_refusesPlace_X6_isEmpty : GoodIn wsX11_refusesPlace wsX6_isEmpty := goodIn_r _ [13, 14, 15, 42, 43, 44, 45] (by decide +kernel) (by decide +kernel)
set_option maxRecDepth 20000 in
theorem gX11_refusesPlace_X6_isEmpty : GoodIn wsX11_refusesPlace (wsV RX11 323 RX6 yX6_isEmpty wsX6_isEmpty) := goodIn_app (goodIn_of _ (by decide +kernel)) ggX11_refusesPlace_X6_isEmpty
set_option maxRecDepth 20000 in
theorem ggX11_refusesPlace_X6_isRow : GoodIn wsX11_refusesPlace wsX6_isRow := goodIn_r _ [19, 15, 42, 43, 44, 45] (by decide +kernel) (by decide +kernel)
set_option maxRecDepth 20000 in
theorem gX11_refusesPlace_X6_isRow : GoodIn wsX11_refusesPlace (wsV RX11 326 RX6 yX6_isRow wsX6_isRow) := goodIn_app (goodIn_of _ (by decide +kernel)) ggX11_refusesPlace_X6_isRow
set_option maxRecDepth 20000 in
theorem ggX11_refusesPlace_X6_hasPlaces : GoodIn wsX11_refusesPlace wsX6_hasPlaces := goodIn_r _ [23, 24, 42, 43, 44, 45] (by decide +kernel) (by decide +kernel)
set_option maxRecDepth 20000 in
theorem gX11_refusesPlace_X6_hasPlaces : GoodIn wsX11_refusesPlace (wsV RX11 332 RX6 yX6_hasPlaces wsX6_hasPlaces) := goodIn_app (goodIn_of _ (by decide +kernel)) ggX11_refusesPlace_X6_hasPlaces
theorem dX11_refusesPlace_0 : decode cX11_refusesPlace 0 = .ok (.iload_n 1, 1) := by decide +kernel
theorem dX11_refusesPlace_1 : decode cX11_refusesPlace 1 = .ok (.invokestatic 254, 3) := by decide +kernel
theorem dX11_refusesPlace_4 : decode cX11_refusesPlace 4 = .ok (.ifCond .ne 5, 3) := by decide +kernel
theorem dX11_refusesPlace_7 : decode cX11_refusesPlace 7 = .ok (.iconst (-1), 1) := by decide +kernel
theorem dX11_refusesPlace_8 : decode cX11_refusesPlace 8 = .ok (.ireturn, 1) := by decide +kernel
theorem dX11_refusesPlace_9 : decode cX11_refusesPlace 9 = .ok (.aload_n 0, 1) := by decide +kernel
theorem dX11_refusesPlace_10 : decode cX11_refusesPlace 10 = .ok (.getfield 95, 3) := by decide +kernel
theorem dX11_refusesPlace_13 : decode cX11_refusesPlace 13 = .ok (.iload_n 1, 1) := by decide +kernel
theorem dX11_refusesPlace_14 : decode cX11_refusesPlace 14 = .ok (.aaload, 1) := by decide +kernel
theorem dX11_refusesPlace_15 : decode cX11_refusesPlace 15 = .ok (.invokevirtual 323, 3) := by decide +kernel
theorem dX11_refusesPlace_18 : decode cX11_refusesPlace 18 = .ok (.ifCond .eq 6, 3) := by decide +kernel
theorem dX11_refusesPlace_21 : decode cX11_refusesPlace 21 = .ok (.bipush (-11), 2) := by decide +kernel
theorem dX11_refusesPlace_23 : decode cX11_refusesPlace 23 = .ok (.ireturn, 1) := by decide +kernel
theorem dX11_refusesPlace_24 : decode cX11_refusesPlace 24 = .ok (.aload_n 0, 1) := by decide +kernel
theorem dX11_refusesPlace_25 : decode cX11_refusesPlace 25 = .ok (.getfield 95, 3) := by decide +kernel
theorem dX11_refusesPlace_28 : decode cX11_refusesPlace 28 = .ok (.iload_n 1, 1) := by decide +kernel
theorem dX11_refusesPlace_29 : decode cX11_refusesPlace 29 = .ok (.aaload, 1) := by decide +kernel
theorem dX11_refusesPlace_30 : decode cX11_refusesPlace 30 = .ok (.invokevirtual 326, 3) := by decide +kernel
theorem dX11_refusesPlace_33 : decode cX11_refusesPlace 33 = .ok (.ifCond .ne 6, 3) := by decide +kernel
theorem dX11_refusesPlace_36 : decode cX11_refusesPlace 36 = .ok (.bipush (-12), 2) := by decide +kernel
theorem dX11_refusesPlace_38 : decode cX11_refusesPlace 38 = .ok (.ireturn, 1) := by decide +kernel
theorem dX11_refusesPlace_39 : decode cX11_refusesPlace 39 = .ok (.aload_n 0, 1) := by decide +kernel
theorem dX11_refusesPlace_40 : decode cX11_refusesPlace 40 = .ok (.getfield 95, 3) := by decide +kernel
theorem dX11_refusesPlace_43 : decode cX11_refusesPlace 43 = .ok (.iload_n 1, 1) := by decide +kernel
theorem dX11_refusesPlace_44 : decode cX11_refusesPlace 44 = .ok (.aaload, 1) := by decide +kernel
theorem dX11_refusesPlace_45 : decode cX11_refusesPlace 45 = .ok (.iload_n 2, 1) := by decide +kernel
theorem dX11_refusesPlace_46 : decode cX11_refusesPlace 46 = .ok (.iconst 1, 1) := by decide +kernel
theorem dX11_refusesPlace_47 : decode cX11_refusesPlace 47 = .ok (.invokevirtual 332, 3) := by decide +kernel
theorem dX11_refusesPlace_50 : decode cX11_refusesPlace 50 = .ok (.ifCond .eq 7, 3) := by decide +kernel
theorem dX11_refusesPlace_53 : decode cX11_refusesPlace 53 = .ok (.iconst 0, 1) := by decide +kernel
theorem dX11_refusesPlace_54 : decode cX11_refusesPlace 54 = .ok (.goto 5, 3) := by decide +kernel
theorem dX11_refusesPlace_57 : decode cX11_refusesPlace 57 = .ok (.bipush (-13), 2) := by decide +kernel
theorem dX11_refusesPlace_59 : decode cX11_refusesPlace 59 = .ok (.ireturn, 1) := by decide +kernel
set_option maxRecDepth 20000 in
theorem ggX11_listen_X8_steps : GoodIn wsX11_listen wsX8_steps := goodIn_r _ [8, 9, 107, 108, 109, 110, 111, 112] (by decide +kernel) (by decide +kernel)
set_option maxRecDepth 20000 in
theorem gX11_listen_X8_steps : GoodIn wsX11_listen (wsV RX11 119 RX8 yX8_steps wsX8_steps) := goodIn_app (goodIn_of _ (by decide +kernel)) ggX11_listen_X8_steps
set_option maxRecDepth 20000 in
theorem ggX11_listen_X8_jars : GoodIn wsX11_listen wsX8_jars := goodIn_r _ [13, 9, 107, 108, 109, 110, 111, 112] (by decide +kernel) (by decide +kernel)
set_option maxRecDepth 20000 in
theorem gX11_listen_X8_jars : GoodIn wsX11_listen (wsV RX11 126 RX8 yX8_jars wsX8_jars) := goodIn_app (goodIn_of _ (by decide +kernel)) ggX11_listen_X8_jars
set_option maxRecDepth 20000 in
theorem ggX11_listen_X7_become : GoodIn wsX11_listen wsX7_become := goodIn_r _ [18, 19, 20, 21, 113, 114, 115] (by decide +kernel) (by decide +kernel)
set_option maxRecDepth 20000 in
theorem gX11_listen_X7_become : GoodIn wsX11_listen (wsV RX11 369 RX7 yX7_become wsX7_become) := goodIn_app (goodIn_of _ (by decide +kernel)) ggX11_listen_X7_become
set_option maxRecDepth 20000 in
theorem ggX11_listen_X6_get : GoodIn wsX11_listen wsX6_get := goodIn_r _ [26, 27, 28, 103, 104, 105, 106] (by decide +kernel) (by decide +kernel)
set_option maxRecDepth 20000 in
theorem gX11_listen_X6_get : GoodIn wsX11_listen (wsV RX11 319 RX6 yX6_get wsX6_get) := goodIn_app (goodIn_of _ (by decide +kernel)) ggX11_listen_X6_get
set_option maxRecDepth 20000 in
theorem ggX11_listen_X11_canBe : GoodIn wsX11_listen wsX11_canBe := goodIn_r _ [33, 2, 1, 4, 5, 6, 7, 8, 9, 34, 35, 32, 36, 86, 87, 88, 89, 90, 91, 92, 93, 94, 95, 96, 97, 98, 99, 100, 101, 102, 113, 114, 115, 107, 108, 109, 110, 111, 112] (by decide +kernel) (by decide +kernel)
set_option maxRecDepth 20000 in
theorem gX11_listen_X11_canBe : GoodIn wsX11_listen (wsV RX11 379 RX11 yX11_canBe wsX11_canBe) := goodIn_app (goodIn_of _ (by decide +kernel)) ggX11_listen_X11_canBe
set_option maxRecDepth 20000 in
theorem ggX11_listen_X11_isWise : GoodIn wsX11_listen wsX11_isWise := goodIn_r _ [40, 41, 42, 43, 44, 45, 46, 47, 48, 49, 50, 51, 52, 53, 54, 55, 56, 57, 58, 59, 60, 61, 62, 63, 64, 65, 66, 67, 68, 69, 70, 71, 17, 72, 20, 19, 73, 74, 75, 76, 77, 86, 87, 88, 89, 90, 91, 92, 93, 94, 95, 96, 97, 98, 99, 100, 101, 102, 113, 114, 115, 116, 117, 118, 119, 120] (by decide +kernel) (by decide +kernel)
set_option maxRecDepth 20000 in
theorem gX11_listen_X11_isWise : GoodIn wsX11_listen (wsV RX11 383 RX11 yX11_isWise wsX11_isWise) := goodIn_app (goodIn_of _ (by decide +kernel)) ggX11_listen_X11_isWise
set_option maxRecDepth 20000 in
theorem ggX11_listen_X7_part : GoodIn wsX11_listen wsX7_part := goodIn_r _ [81, 20, 82, 83, 64, 84, 21, 19, 85, 63, 65, 113, 114, 115] (by decide +kernel) (by decide +kernel)
set_option maxRecDepth 20000 in
theorem gX11_listen_X7_part : GoodIn wsX11_listen (wsV RX11 387 RX7 yX7_part wsX7_part) := goodIn_app (goodIn_of _ (by decide +kernel)) ggX11_listen_X7_part
theorem dX11_listen_0 : decode cX11_listen 0 = .ok (.aload_n 0, 1) := by decide +kernel
theorem dX11_listen_1 : decode cX11_listen 1 = .ok (.getfield 73, 3) := by decide +kernel
theorem dX11_listen_4 : decode cX11_listen 4 = .ok (.iconst 0, 1) := by decide +kernel
theorem dX11_listen_5 : decode cX11_listen 5 = .ok (.aload_n 0, 1) := by decide +kernel
theorem dX11_listen_6 : decode cX11_listen 6 = .ok (.getfield 10, 3) := by decide +kernel
theorem dX11_listen_9 : decode cX11_listen 9 = .ok (.invokevirtual 119, 3) := by decide +kernel
theorem dX11_listen_12 : decode cX11_listen 12 = .ok (.aload_n 0, 1) := by decide +kernel
theorem dX11_listen_13 : decode cX11_listen 13 = .ok (.getfield 10, 3) := by decide +kernel
theorem dX11_listen_16 : decode cX11_listen 16 = .ok (.invokevirtual 126, 3) := by decide +kernel
theorem dX11_listen_19 : decode cX11_listen 19 = .ok (.invokevirtual 369, 3) := by decide +kernel
theorem dX11_listen_22 : decode cX11_listen 22 = .ok (.aload_n 0, 1) := by decide +kernel
theorem dX11_listen_23 : decode cX11_listen 23 = .ok (.iconst 0, 1) := by decide +kernel
theorem dX11_listen_24 : decode cX11_listen 24 = .ok (.putfield 227, 3) := by decide +kernel
theorem dX11_listen_27 : decode cX11_listen 27 = .ok (.iconst 0, 1) := by decide +kernel
theorem dX11_listen_28 : decode cX11_listen 28 = .ok (.istore_n 2, 1) := by decide +kernel
theorem dX11_listen_29 : decode cX11_listen 29 = .ok (.iload_n 2, 1) := by decide +kernel
theorem dX11_listen_30 : decode cX11_listen 30 = .ok (.aload_n 1, 1) := by decide +kernel
theorem dX11_listen_31 : decode cX11_listen 31 = .ok (.getfield 378, 3) := by decide +kernel
theorem dX11_listen_34 : decode cX11_listen 34 = .ok (.if_icmp .ge 92, 3) := by decide +kernel
theorem dX11_listen_37 : decode cX11_listen 37 = .ok (.aload_n 1, 1) := by decide +kernel
theorem dX11_listen_38 : decode cX11_listen 38 = .ok (.iload_n 2, 1) := by decide +kernel
theorem dX11_listen_39 : decode cX11_listen 39 = .ok (.invokevirtual 319, 3) := by decide +kernel
theorem dX11_listen_42 : decode cX11_listen 42 = .ok (.l2i, 1) := by decide +kernel
theorem dX11_listen_43 : decode cX11_listen 43 = .ok (.istore_n 3, 1) := by decide +kernel
theorem dX11_listen_44 : decode cX11_listen 44 = .ok (.iload_n 2, 1) := by decide +kernel
theorem dX11_listen_45 : decode cX11_listen 45 = .ok (.iconst 1, 1) := by decide +kernel
theorem dX11_listen_46 : decode cX11_listen 46 = .ok (.iadd, 1) := by decide +kernel
theorem dX11_listen_47 : decode cX11_listen 47 = .ok (.aload_n 1, 1) := by decide +kernel
theorem dX11_listen_48 : decode cX11_listen 48 = .ok (.getfield 378, 3) := by decide +kernel
theorem dX11_listen_51 : decode cX11_listen 51 = .ok (.if_icmp .ge 18, 3) := by decide +kernel
theorem dX11_listen_54 : decode cX11_listen 54 = .ok (.aload_n 0, 1) := by decide +kernel
theorem dX11_listen_55 : decode cX11_listen 55 = .ok (.iload_n 3, 1) := by decide +kernel
theorem dX11_listen_56 : decode cX11_listen 56 = .ok (.aload_n 1, 1) := by decide +kernel
theorem dX11_listen_57 : decode cX11_listen 57 = .ok (.iload_n 2, 1) := by decide +kernel
theorem dX11_listen_58 : decode cX11_listen 58 = .ok (.iconst 1, 1) := by decide +kernel
theorem dX11_listen_59 : decode cX11_listen 59 = .ok (.iadd, 1) := by decide +kernel
theorem dX11_listen_60 : decode cX11_listen 60 = .ok (.invokevirtual 319, 3) := by decide +kernel
theorem dX11_listen_63 : decode cX11_listen 63 = .ok (.invokevirtual 379, 3) := by decide +kernel
theorem dX11_listen_66 : decode cX11_listen 66 = .ok (.ifCond .ne 7, 3) := by decide +kernel
theorem dX11_listen_69 : decode cX11_listen 69 = .ok (.iload_n 2, 1) := by decide +kernel
theorem dX11_listen_70 : decode cX11_listen 70 = .ok (.iconst 2, 1) := by decide +kernel
theorem dX11_listen_71 : decode cX11_listen 71 = .ok (.idiv, 1) := by decide +kernel
theorem dX11_listen_72 : decode cX11_listen 72 = .ok (.ireturn, 1) := by decide +kernel
theorem dX11_listen_73 : decode cX11_listen 73 = .ok (.aload_n 0, 1) := by decide +kernel
theorem dX11_listen_74 : decode cX11_listen 74 = .ok (.aload_n 0, 1) := by decide +kernel
theorem dX11_listen_75 : decode cX11_listen 75 = .ok (.getfield 73, 3) := by decide +kernel
theorem dX11_listen_78 : decode cX11_listen 78 = .ok (.iload_n 3, 1) := by decide +kernel
theorem dX11_listen_79 : decode cX11_listen 79 = .ok (.invokevirtual 383, 3) := by decide +kernel
theorem dX11_listen_82 : decode cX11_listen 82 = .ok (.ifCond .eq 13, 3) := by decide +kernel
theorem dX11_listen_85 : decode cX11_listen 85 = .ok (.aload_n 0, 1) := by decide +kernel
theorem dX11_listen_86 : decode cX11_listen 86 = .ok (.dup, 1) := by decide +kernel
theorem dX11_listen_87 : decode cX11_listen 87 = .ok (.getfield 227, 3) := by decide +kernel
theorem dX11_listen_90 : decode cX11_listen 90 = .ok (.iconst 1, 1) := by decide +kernel
theorem dX11_listen_91 : decode cX11_listen 91 = .ok (.iadd, 1) := by decide +kernel
theorem dX11_listen_92 : decode cX11_listen 92 = .ok (.putfield 227, 3) := by decide +kernel
theorem dX11_listen_95 : decode cX11_listen 95 = .ok (.aload_n 0, 1) := by decide +kernel
theorem dX11_listen_96 : decode cX11_listen 96 = .ok (.getfield 73, 3) := by decide +kernel
theorem dX11_listen_99 : decode cX11_listen 99 = .ok (.iload_n 3, 1) := by decide +kernel
theorem dX11_listen_100 : decode cX11_listen 100 = .ok (.aload_n 1, 1) := by decide +kernel
theorem dX11_listen_101 : decode cX11_listen 101 = .ok (.iload_n 2, 1) := by decide +kernel
theorem dX11_listen_102 : decode cX11_listen 102 = .ok (.iconst 1, 1) := by decide +kernel
theorem dX11_listen_103 : decode cX11_listen 103 = .ok (.iadd, 1) := by decide +kernel
theorem dX11_listen_104 : decode cX11_listen 104 = .ok (.invokevirtual 319, 3) := by decide +kernel
theorem dX11_listen_107 : decode cX11_listen 107 = .ok (.lconst 1, 1) := by decide +kernel
theorem dX11_listen_108 : decode cX11_listen 108 = .ok (.lcmp, 1) := by decide +kernel
theorem dX11_listen_109 : decode cX11_listen 109 = .ok (.ifCond .ne 7, 3) := by decide +kernel
theorem dX11_listen_112 : decode cX11_listen 112 = .ok (.iconst 1, 1) := by decide +kernel
theorem dX11_listen_113 : decode cX11_listen 113 = .ok (.goto 4, 3) := by decide +kernel
theorem dX11_listen_116 : decode cX11_listen 116 = .ok (.iconst 0, 1) := by decide +kernel
theorem dX11_listen_117 : decode cX11_listen 117 = .ok (.invokevirtual 387, 3) := by decide +kernel
theorem dX11_listen_120 : decode cX11_listen 120 = .ok (.iinc 2 2, 3) := by decide +kernel
theorem dX11_listen_123 : decode cX11_listen 123 = .ok (.goto (-94), 3) := by decide +kernel
theorem dX11_listen_126 : decode cX11_listen 126 = .ok (.bipush (-2), 2) := by decide +kernel
theorem dX11_listen_128 : decode cX11_listen 128 = .ok (.ireturn, 1) := by decide +kernel
set_option maxRecDepth 20000 in
theorem ggX11_canBe_X8_steps : GoodIn wsX11_canBe wsX8_steps := goodIn_r _ [7, 8, 33, 34, 35, 36, 37, 38] (by decide +kernel) (by decide +kernel)
set_option maxRecDepth 20000 in
theorem gX11_canBe_X8_steps : GoodIn wsX11_canBe (wsV RX11 119 RX8 yX8_steps wsX8_steps) := goodIn_app (goodIn_of _ (by decide +kernel)) ggX11_canBe_X8_steps
set_option maxRecDepth 20000 in
theorem ggX11_canBe_X11_within : GoodIn wsX11_canBe wsX11_within := goodIn_r _ [12] (by decide +kernel) (by decide +kernel)
set_option maxRecDepth 20000 in
theorem gX11_canBe_X11_within : GoodIn wsX11_canBe (va_wsS RX11 122 yX11_within wsX11_within) := goodIn_app (goodIn_of _ (by decide +kernel)) ggX11_canBe_X11_within
theorem dX11_canBe_0 : decode cX11_canBe 0 = .ok (.iload_n 1, 1) := by decide +kernel
theorem dX11_canBe_1 : decode cX11_canBe 1 = .ok (.iconst 1, 1) := by decide +kernel
theorem dX11_canBe_2 : decode cX11_canBe 2 = .ok (.aload_n 0, 1) := by decide +kernel
theorem dX11_canBe_3 : decode cX11_canBe 3 = .ok (.getfield 10, 3) := by decide +kernel
theorem dX11_canBe_6 : decode cX11_canBe 6 = .ok (.invokevirtual 119, 3) := by decide +kernel
theorem dX11_canBe_9 : decode cX11_canBe 9 = .ok (.invokestatic 122, 3) := by decide +kernel
theorem dX11_canBe_12 : decode cX11_canBe 12 = .ok (.ifCond .eq 13, 3) := by decide +kernel
theorem dX11_canBe_15 : decode cX11_canBe 15 = .ok (.aload_n 0, 1) := by decide +kernel
theorem dX11_canBe_16 : decode cX11_canBe 16 = .ok (.getfield 73, 3) := by decide +kernel
theorem dX11_canBe_19 : decode cX11_canBe 19 = .ok (.getfield 152, 3) := by decide +kernel
theorem dX11_canBe_22 : decode cX11_canBe 22 = .ok (.ifCond .ne 5, 3) := by decide +kernel
theorem dX11_canBe_25 : decode cX11_canBe 25 = .ok (.iconst 0, 1) := by decide +kernel
theorem dX11_canBe_26 : decode cX11_canBe 26 = .ok (.ireturn, 1) := by decide +kernel
theorem dX11_canBe_27 : decode cX11_canBe 27 = .ok (.lload_n 2, 1) := by decide +kernel
theorem dX11_canBe_28 : decode cX11_canBe 28 = .ok (.lconst 1, 1) := by decide +kernel
theorem dX11_canBe_29 : decode cX11_canBe 29 = .ok (.lcmp, 1) := by decide +kernel
theorem dX11_canBe_30 : decode cX11_canBe 30 = .ok (.ifCond .ne 20, 3) := by decide +kernel
theorem dX11_canBe_33 : decode cX11_canBe 33 = .ok (.iload_n 1, 1) := by decide +kernel
theorem dX11_canBe_34 : decode cX11_canBe 34 = .ok (.aload_n 0, 1) := by decide +kernel
theorem dX11_canBe_35 : decode cX11_canBe 35 = .ok (.getfield 73, 3) := by decide +kernel
theorem dX11_canBe_38 : decode cX11_canBe 38 = .ok (.getfield 221, 3) := by decide +kernel
theorem dX11_canBe_41 : decode cX11_canBe 41 = .ok (.if_icmp .le 7, 3) := by decide +kernel
theorem dX11_canBe_44 : decode cX11_canBe 44 = .ok (.iconst 1, 1) := by decide +kernel
theorem dX11_canBe_45 : decode cX11_canBe 45 = .ok (.goto 4, 3) := by decide +kernel
theorem dX11_canBe_48 : decode cX11_canBe 48 = .ok (.iconst 0, 1) := by decide +kernel
theorem dX11_canBe_49 : decode cX11_canBe 49 = .ok (.ireturn, 1) := by decide +kernel
theorem dX11_canBe_50 : decode cX11_canBe 50 = .ok (.lload_n 2, 1) := by decide +kernel
theorem dX11_canBe_51 : decode cX11_canBe 51 = .ok (.lconst 0, 1) := by decide +kernel
theorem dX11_canBe_52 : decode cX11_canBe 52 = .ok (.lcmp, 1) := by decide +kernel
theorem dX11_canBe_53 : decode cX11_canBe 53 = .ok (.ifCond .ne 18, 3) := by decide +kernel
theorem dX11_canBe_56 : decode cX11_canBe 56 = .ok (.iload_n 1, 1) := by decide +kernel
theorem dX11_canBe_57 : decode cX11_canBe 57 = .ok (.aload_n 0, 1) := by decide +kernel
theorem dX11_canBe_58 : decode cX11_canBe 58 = .ok (.getfield 73, 3) := by decide +kernel
theorem dX11_canBe_61 : decode cX11_canBe 61 = .ok (.getfield 224, 3) := by decide +kernel
theorem dX11_canBe_64 : decode cX11_canBe 64 = .ok (.if_icmp .gt 7, 3) := by decide +kernel
theorem dX11_canBe_67 : decode cX11_canBe 67 = .ok (.iconst 1, 1) := by decide +kernel
theorem dX11_canBe_68 : decode cX11_canBe 68 = .ok (.goto 4, 3) := by decide +kernel
theorem dX11_canBe_71 : decode cX11_canBe 71 = .ok (.iconst 0, 1) := by decide +kernel
theorem dX11_canBe_72 : decode cX11_canBe 72 = .ok (.ireturn, 1) := by decide +kernel
set_option maxRecDepth 20000 in
theorem ggX11_isWise_X2_prepare : GoodIn wsX11_isWise wsX2_prepare := goodIn_r _ [7, 8, 9, 10, 11, 12, 6, 13, 14, 15, 16, 17, 18, 19, 20, 21, 22, 23, 24, 25, 26, 27, 28, 61, 62, 63, 64, 65] (by decide +kernel) (by decide +kernel)
set_option maxRecDepth 20000 in
theorem gX11_isWise_X2_prepare : GoodIn wsX11_isWise (wsV RX11 133 RX2 yX2_prepare wsX2_prepare) := goodIn_app (goodIn_of _ (by decide +kernel)) ggX11_isWise_X2_prepare
set_option maxRecDepth 20000 in
theorem ggX11_isWise_X7_heights : GoodIn wsX11_isWise wsX7_heights := goodIn_r _ [33, 34, 35, 58, 59, 60] (by decide +kernel) (by decide +kernel)
set_option maxRecDepth 20000 in
theorem gX11_isWise_X7_heights : GoodIn wsX11_isWise (wsV RX11 155 RX7 yX7_heights wsX7_heights) := goodIn_app (goodIn_of _ (by decide +kernel)) ggX11_isWise_X7_heights
set_option maxRecDepth 20000 in
theorem ggX11_isWise_X2_after : GoodIn wsX11_isWise wsX2_after := goodIn_r _ [20, 14, 15, 21, 8, 9, 22, 23, 24, 25, 26, 27, 6, 28, 61, 62, 63, 64, 65] (by decide +kernel) (by decide +kernel)
set_option maxRecDepth 20000 in
theorem gX11_isWise_X2_after : GoodIn wsX11_isWise (wsV RX11 391 RX2 yX2_after wsX2_after) := goodIn_app (goodIn_of _ (by decide +kernel)) ggX11_isWise_X2_after
set_option maxRecDepth 20000 in
theorem ggX11_isWise_X2_cost : GoodIn wsX11_isWise wsX2_cost := goodIn_r _ [40, 15, 14, 26, 27, 6, 28, 61, 62, 63, 64, 65] (by decide +kernel) (by decide +kernel)
set_option maxRecDepth 20000 in
theorem gX11_isWise_X2_cost : GoodIn wsX11_isWise (wsV RX11 158 RX2 yX2_cost wsX2_cost) := goodIn_app (goodIn_of _ (by decide +kernel)) ggX11_isWise_X2_cost
theorem dX11_isWise_0 : decode cX11_isWise 0 = .ok (.aload_n 0, 1) := by decide +kernel
theorem dX11_isWise_1 : decode cX11_isWise 1 = .ok (.getfield 28, 3) := by decide +kernel
theorem dX11_isWise_4 : decode cX11_isWise 4 = .ok (.iconst 1, 1) := by decide +kernel
