theorem dX12_meanOf_57 : decode cX12_meanOf 57 = .ok (.iinc 5 1, 3) := by decide +kernel
theorem dX12_meanOf_60 : decode cX12_meanOf 60 = .ok (.goto (-34), 3) := by decide +kernel
theorem dX12_meanOf_63 : decode cX12_meanOf 63 = .ok (.iinc 4 1, 3) := by decide +kernel
theorem dX12_meanOf_66 : decode cX12_meanOf 66 = .ok (.goto (-50), 3) := by decide +kernel
theorem dX12_meanOf_69 : decode cX12_meanOf 69 = .ok (.iconst 1, 1) := by decide +kernel
theorem dX12_meanOf_70 : decode cX12_meanOf 70 = .ok (.istore 4, 2) := by decide +kernel
theorem dX12_meanOf_72 : decode cX12_meanOf 72 = .ok (.iload 4, 2) := by decide +kernel
theorem dX12_meanOf_74 : decode cX12_meanOf 74 = .ok (.iload_n 3, 1) := by decide +kernel
theorem dX12_meanOf_75 : decode cX12_meanOf 75 = .ok (.if_icmp .gt 110, 3) := by decide +kernel
theorem dX12_meanOf_78 : decode cX12_meanOf 78 = .ok (.iload_n 1, 1) := by decide +kernel
theorem dX12_meanOf_79 : decode cX12_meanOf 79 = .ok (.istore 5, 2) := by decide +kernel
theorem dX12_meanOf_81 : decode cX12_meanOf 81 = .ok (.iload 5, 2) := by decide +kernel
theorem dX12_meanOf_83 : decode cX12_meanOf 83 = .ok (.iload_n 2, 1) := by decide +kernel
theorem dX12_meanOf_84 : decode cX12_meanOf 84 = .ok (.if_icmp .gt 49, 3) := by decide +kernel
theorem dX12_meanOf_87 : decode cX12_meanOf 87 = .ok (.iload 5, 2) := by decide +kernel
theorem dX12_meanOf_89 : decode cX12_meanOf 89 = .ok (.istore 6, 2) := by decide +kernel
theorem dX12_meanOf_91 : decode cX12_meanOf 91 = .ok (.iload 6, 2) := by decide +kernel
theorem dX12_meanOf_93 : decode cX12_meanOf 93 = .ok (.iload_n 2, 1) := by decide +kernel
theorem dX12_meanOf_94 : decode cX12_meanOf 94 = .ok (.if_icmp .gt 33, 3) := by decide +kernel
theorem dX12_meanOf_97 : decode cX12_meanOf 97 = .ok (.aload_n 0, 1) := by decide +kernel
theorem dX12_meanOf_98 : decode cX12_meanOf 98 = .ok (.getfield 72, 3) := by decide +kernel
theorem dX12_meanOf_101 : decode cX12_meanOf 101 = .ok (.iload 5, 2) := by decide +kernel
theorem dX12_meanOf_103 : decode cX12_meanOf 103 = .ok (.iload 6, 2) := by decide +kernel
theorem dX12_meanOf_105 : decode cX12_meanOf 105 = .ok (.invokestatic 237, 3) := by decide +kernel
theorem dX12_meanOf_108 : decode cX12_meanOf 108 = .ok (.aload_n 0, 1) := by decide +kernel
theorem dX12_meanOf_109 : decode cX12_meanOf 109 = .ok (.getfield 69, 3) := by decide +kernel
theorem dX12_meanOf_112 : decode cX12_meanOf 112 = .ok (.iload 5, 2) := by decide +kernel
theorem dX12_meanOf_114 : decode cX12_meanOf 114 = .ok (.iload 6, 2) := by decide +kernel
theorem dX12_meanOf_116 : decode cX12_meanOf 116 = .ok (.invokestatic 237, 3) := by decide +kernel
theorem dX12_meanOf_119 : decode cX12_meanOf 119 = .ok (.iaload, 1) := by decide +kernel
theorem dX12_meanOf_120 : decode cX12_meanOf 120 = .ok (.iastore, 1) := by decide +kernel
theorem dX12_meanOf_121 : decode cX12_meanOf 121 = .ok (.iinc 6 1, 3) := by decide +kernel
theorem dX12_meanOf_124 : decode cX12_meanOf 124 = .ok (.goto (-33), 3) := by decide +kernel
theorem dX12_meanOf_127 : decode cX12_meanOf 127 = .ok (.iinc 5 1, 3) := by decide +kernel
theorem dX12_meanOf_130 : decode cX12_meanOf 130 = .ok (.goto (-49), 3) := by decide +kernel
theorem dX12_meanOf_133 : decode cX12_meanOf 133 = .ok (.iconst 1, 1) := by decide +kernel
theorem dX12_meanOf_134 : decode cX12_meanOf 134 = .ok (.istore 5, 2) := by decide +kernel
theorem dX12_meanOf_136 : decode cX12_meanOf 136 = .ok (.iload 5, 2) := by decide +kernel
theorem dX12_meanOf_138 : decode cX12_meanOf 138 = .ok (.iload_n 2, 1) := by decide +kernel
theorem dX12_meanOf_139 : decode cX12_meanOf 139 = .ok (.iload_n 1, 1) := by decide +kernel
theorem dX12_meanOf_140 : decode cX12_meanOf 140 = .ok (.isub, 1) := by decide +kernel
theorem dX12_meanOf_141 : decode cX12_meanOf 141 = .ok (.if_icmp .gt 38, 3) := by decide +kernel
theorem dX12_meanOf_144 : decode cX12_meanOf 144 = .ok (.iload_n 1, 1) := by decide +kernel
theorem dX12_meanOf_145 : decode cX12_meanOf 145 = .ok (.istore 6, 2) := by decide +kernel
theorem dX12_meanOf_147 : decode cX12_meanOf 147 = .ok (.iload 6, 2) := by decide +kernel
theorem dX12_meanOf_149 : decode cX12_meanOf 149 = .ok (.iload 5, 2) := by decide +kernel
theorem dX12_meanOf_151 : decode cX12_meanOf 151 = .ok (.iadd, 1) := by decide +kernel
theorem dX12_meanOf_152 : decode cX12_meanOf 152 = .ok (.iload_n 2, 1) := by decide +kernel
theorem dX12_meanOf_153 : decode cX12_meanOf 153 = .ok (.if_icmp .gt 20, 3) := by decide +kernel
theorem dX12_meanOf_156 : decode cX12_meanOf 156 = .ok (.aload_n 0, 1) := by decide +kernel
theorem dX12_meanOf_157 : decode cX12_meanOf 157 = .ok (.iload 6, 2) := by decide +kernel
theorem dX12_meanOf_159 : decode cX12_meanOf 159 = .ok (.iload 6, 2) := by decide +kernel
theorem dX12_meanOf_161 : decode cX12_meanOf 161 = .ok (.iload 5, 2) := by decide +kernel
theorem dX12_meanOf_163 : decode cX12_meanOf 163 = .ok (.iadd, 1) := by decide +kernel
theorem dX12_meanOf_164 : decode cX12_meanOf 164 = .ok (.invokevirtual 240, 3) := by decide +kernel
theorem dX12_meanOf_167 : decode cX12_meanOf 167 = .ok (.iinc 6 1, 3) := by decide +kernel
theorem dX12_meanOf_170 : decode cX12_meanOf 170 = .ok (.goto (-23), 3) := by decide +kernel
theorem dX12_meanOf_173 : decode cX12_meanOf 173 = .ok (.iinc 5 1, 3) := by decide +kernel
theorem dX12_meanOf_176 : decode cX12_meanOf 176 = .ok (.goto (-40), 3) := by decide +kernel
theorem dX12_meanOf_179 : decode cX12_meanOf 179 = .ok (.iinc 4 1, 3) := by decide +kernel
theorem dX12_meanOf_182 : decode cX12_meanOf 182 = .ok (.goto (-110), 3) := by decide +kernel
theorem dX12_meanOf_185 : decode cX12_meanOf 185 = .ok (.aload_n 0, 1) := by decide +kernel
theorem dX12_meanOf_186 : decode cX12_meanOf 186 = .ok (.getfield 69, 3) := by decide +kernel
theorem dX12_meanOf_189 : decode cX12_meanOf 189 = .ok (.iload_n 1, 1) := by decide +kernel
theorem dX12_meanOf_190 : decode cX12_meanOf 190 = .ok (.iload_n 2, 1) := by decide +kernel
theorem dX12_meanOf_191 : decode cX12_meanOf 191 = .ok (.invokestatic 237, 3) := by decide +kernel
theorem dX12_meanOf_194 : decode cX12_meanOf 194 = .ok (.iaload, 1) := by decide +kernel
theorem dX12_meanOf_195 : decode cX12_meanOf 195 = .ok (.ireturn, 1) := by decide +kernel
set_option maxRecDepth 20000 in
theorem ggX12_findSum_X12_at : GoodIn wsX12_findSum wsX12_at := goodIn_r _ [9] (by decide +kernel) (by decide +kernel)
set_option maxRecDepth 20000 in
theorem gX12_findSum_X12_at : GoodIn wsX12_findSum (va_wsS RX12 237 yX12_at wsX12_at) := goodIn_app (goodIn_of _ (by decide +kernel)) ggX12_findSum_X12_at
theorem dX12_findSum_0 : decode cX12_findSum 0 = .ok (.ldc 220, 2) := by decide +kernel
theorem dX12_findSum_2 : decode cX12_findSum 2 = .ok (.istore_n 3, 1) := by decide +kernel
theorem dX12_findSum_3 : decode cX12_findSum 3 = .ok (.iload_n 1, 1) := by decide +kernel
theorem dX12_findSum_4 : decode cX12_findSum 4 = .ok (.iconst 1, 1) := by decide +kernel
theorem dX12_findSum_5 : decode cX12_findSum 5 = .ok (.iadd, 1) := by decide +kernel
theorem dX12_findSum_6 : decode cX12_findSum 6 = .ok (.istore 4, 2) := by decide +kernel
theorem dX12_findSum_8 : decode cX12_findSum 8 = .ok (.iload 4, 2) := by decide +kernel
theorem dX12_findSum_10 : decode cX12_findSum 10 = .ok (.iload_n 2, 1) := by decide +kernel
theorem dX12_findSum_11 : decode cX12_findSum 11 = .ok (.if_icmp .gt 54, 3) := by decide +kernel
theorem dX12_findSum_14 : decode cX12_findSum 14 = .ok (.aload_n 0, 1) := by decide +kernel
theorem dX12_findSum_15 : decode cX12_findSum 15 = .ok (.getfield 72, 3) := by decide +kernel
theorem dX12_findSum_18 : decode cX12_findSum 18 = .ok (.iload_n 1, 1) := by decide +kernel
theorem dX12_findSum_19 : decode cX12_findSum 19 = .ok (.iload 4, 2) := by decide +kernel
theorem dX12_findSum_21 : decode cX12_findSum 21 = .ok (.iconst 1, 1) := by decide +kernel
theorem dX12_findSum_22 : decode cX12_findSum 22 = .ok (.isub, 1) := by decide +kernel
theorem dX12_findSum_23 : decode cX12_findSum 23 = .ok (.invokestatic 237, 3) := by decide +kernel
theorem dX12_findSum_26 : decode cX12_findSum 26 = .ok (.iaload, 1) := by decide +kernel
theorem dX12_findSum_27 : decode cX12_findSum 27 = .ok (.aload_n 0, 1) := by decide +kernel
theorem dX12_findSum_28 : decode cX12_findSum 28 = .ok (.getfield 69, 3) := by decide +kernel
theorem dX12_findSum_31 : decode cX12_findSum 31 = .ok (.iload 4, 2) := by decide +kernel
theorem dX12_findSum_33 : decode cX12_findSum 33 = .ok (.iload_n 2, 1) := by decide +kernel
theorem dX12_findSum_34 : decode cX12_findSum 34 = .ok (.invokestatic 237, 3) := by decide +kernel
theorem dX12_findSum_37 : decode cX12_findSum 37 = .ok (.iaload, 1) := by decide +kernel
theorem dX12_findSum_38 : decode cX12_findSum 38 = .ok (.iadd, 1) := by decide +kernel
theorem dX12_findSum_39 : decode cX12_findSum 39 = .ok (.istore 5, 2) := by decide +kernel
theorem dX12_findSum_41 : decode cX12_findSum 41 = .ok (.iload 5, 2) := by decide +kernel
theorem dX12_findSum_43 : decode cX12_findSum 43 = .ok (.iload_n 3, 1) := by decide +kernel
theorem dX12_findSum_44 : decode cX12_findSum 44 = .ok (.if_icmp .lt 6, 3) := by decide +kernel
theorem dX12_findSum_47 : decode cX12_findSum 47 = .ok (.goto 12, 3) := by decide +kernel
theorem dX12_findSum_50 : decode cX12_findSum 50 = .ok (.iload 5, 2) := by decide +kernel
theorem dX12_findSum_52 : decode cX12_findSum 52 = .ok (.istore_n 3, 1) := by decide +kernel
theorem dX12_findSum_53 : decode cX12_findSum 53 = .ok (.aload_n 0, 1) := by decide +kernel
theorem dX12_findSum_54 : decode cX12_findSum 54 = .ok (.iload 4, 2) := by decide +kernel
theorem dX12_findSum_56 : decode cX12_findSum 56 = .ok (.putfield 234, 3) := by decide +kernel
theorem dX12_findSum_59 : decode cX12_findSum 59 = .ok (.iinc 4 1, 3) := by decide +kernel
theorem dX12_findSum_62 : decode cX12_findSum 62 = .ok (.goto (-54), 3) := by decide +kernel
theorem dX12_findSum_65 : decode cX12_findSum 65 = .ok (.aload_n 0, 1) := by decide +kernel
theorem dX12_findSum_66 : decode cX12_findSum 66 = .ok (.getfield 69, 3) := by decide +kernel
theorem dX12_findSum_69 : decode cX12_findSum 69 = .ok (.iload_n 1, 1) := by decide +kernel
theorem dX12_findSum_70 : decode cX12_findSum 70 = .ok (.iload_n 2, 1) := by decide +kernel
theorem dX12_findSum_71 : decode cX12_findSum 71 = .ok (.invokestatic 237, 3) := by decide +kernel
theorem dX12_findSum_74 : decode cX12_findSum 74 = .ok (.iload_n 3, 1) := by decide +kernel
theorem dX12_findSum_75 : decode cX12_findSum 75 = .ok (.ldc 220, 2) := by decide +kernel
theorem dX12_findSum_77 : decode cX12_findSum 77 = .ok (.if_icmp .lt 8, 3) := by decide +kernel
theorem dX12_findSum_80 : decode cX12_findSum 80 = .ok (.ldc 220, 2) := by decide +kernel
theorem dX12_findSum_82 : decode cX12_findSum 82 = .ok (.goto 20, 3) := by decide +kernel
theorem dX12_findSum_85 : decode cX12_findSum 85 = .ok (.iload_n 3, 1) := by decide +kernel
theorem dX12_findSum_86 : decode cX12_findSum 86 = .ok (.aload_n 0, 1) := by decide +kernel
theorem dX12_findSum_87 : decode cX12_findSum 87 = .ok (.getfield 75, 3) := by decide +kernel
theorem dX12_findSum_90 : decode cX12_findSum 90 = .ok (.iload_n 2, 1) := by decide +kernel
theorem dX12_findSum_91 : decode cX12_findSum 91 = .ok (.iconst 1, 1) := by decide +kernel
theorem dX12_findSum_92 : decode cX12_findSum 92 = .ok (.iadd, 1) := by decide +kernel
theorem dX12_findSum_93 : decode cX12_findSum 93 = .ok (.iaload, 1) := by decide +kernel
theorem dX12_findSum_94 : decode cX12_findSum 94 = .ok (.iadd, 1) := by decide +kernel
theorem dX12_findSum_95 : decode cX12_findSum 95 = .ok (.aload_n 0, 1) := by decide +kernel
theorem dX12_findSum_96 : decode cX12_findSum 96 = .ok (.getfield 75, 3) := by decide +kernel
theorem dX12_findSum_99 : decode cX12_findSum 99 = .ok (.iload_n 1, 1) := by decide +kernel
theorem dX12_findSum_100 : decode cX12_findSum 100 = .ok (.iaload, 1) := by decide +kernel
theorem dX12_findSum_101 : decode cX12_findSum 101 = .ok (.isub, 1) := by decide +kernel
theorem dX12_findSum_102 : decode cX12_findSum 102 = .ok (.iastore, 1) := by decide +kernel
theorem dX12_findSum_103 : decode cX12_findSum 103 = .ok (.return_, 1) := by decide +kernel
theorem dX12_isPart_0 : decode cX12_isPart 0 = .ok (.iload_n 1, 1) := by decide +kernel
theorem dX12_isPart_1 : decode cX12_isPart 1 = .ok (.ifCond .lt 29, 3) := by decide +kernel
theorem dX12_isPart_4 : decode cX12_isPart 4 = .ok (.iload_n 1, 1) := by decide +kernel
theorem dX12_isPart_5 : decode cX12_isPart 5 = .ok (.bipush 100, 2) := by decide +kernel
theorem dX12_isPart_7 : decode cX12_isPart 7 = .ok (.idiv, 1) := by decide +kernel
theorem dX12_isPart_8 : decode cX12_isPart 8 = .ok (.iload_n 1, 1) := by decide +kernel
theorem dX12_isPart_9 : decode cX12_isPart 9 = .ok (.bipush 100, 2) := by decide +kernel
theorem dX12_isPart_11 : decode cX12_isPart 11 = .ok (.irem, 1) := by decide +kernel
theorem dX12_isPart_12 : decode cX12_isPart 12 = .ok (.if_icmp .gt 18, 3) := by decide +kernel
theorem dX12_isPart_15 : decode cX12_isPart 15 = .ok (.iload_n 1, 1) := by decide +kernel
theorem dX12_isPart_16 : decode cX12_isPart 16 = .ok (.bipush 100, 2) := by decide +kernel
theorem dX12_isPart_18 : decode cX12_isPart 18 = .ok (.irem, 1) := by decide +kernel
theorem dX12_isPart_19 : decode cX12_isPart 19 = .ok (.aload_n 0, 1) := by decide +kernel
theorem dX12_isPart_20 : decode cX12_isPart 20 = .ok (.getfield 9, 3) := by decide +kernel
theorem dX12_isPart_23 : decode cX12_isPart 23 = .ok (.if_icmp .gt 7, 3) := by decide +kernel
theorem dX12_isPart_26 : decode cX12_isPart 26 = .ok (.iconst 1, 1) := by decide +kernel
theorem dX12_isPart_27 : decode cX12_isPart 27 = .ok (.goto 4, 3) := by decide +kernel
theorem dX12_isPart_30 : decode cX12_isPart 30 = .ok (.iconst 0, 1) := by decide +kernel
theorem dX12_isPart_31 : decode cX12_isPart 31 = .ok (.ireturn, 1) := by decide +kernel
theorem dX12_common_0 : decode cX12_common 0 = .ok (.iload_n 0, 1) := by decide +kernel
theorem dX12_common_1 : decode cX12_common 1 = .ok (.istore_n 2, 1) := by decide +kernel
theorem dX12_common_2 : decode cX12_common 2 = .ok (.iload_n 1, 1) := by decide +kernel
theorem dX12_common_3 : decode cX12_common 3 = .ok (.istore_n 3, 1) := by decide +kernel
theorem dX12_common_4 : decode cX12_common 4 = .ok (.iload_n 3, 1) := by decide +kernel
theorem dX12_common_5 : decode cX12_common 5 = .ok (.ifCond .eq 16, 3) := by decide +kernel
theorem dX12_common_8 : decode cX12_common 8 = .ok (.iload_n 2, 1) := by decide +kernel
theorem dX12_common_9 : decode cX12_common 9 = .ok (.iload_n 3, 1) := by decide +kernel
theorem dX12_common_10 : decode cX12_common 10 = .ok (.irem, 1) := by decide +kernel
theorem dX12_common_11 : decode cX12_common 11 = .ok (.istore 4, 2) := by decide +kernel
theorem dX12_common_13 : decode cX12_common 13 = .ok (.iload_n 3, 1) := by decide +kernel
theorem dX12_common_14 : decode cX12_common 14 = .ok (.istore_n 2, 1) := by decide +kernel
theorem dX12_common_15 : decode cX12_common 15 = .ok (.iload 4, 2) := by decide +kernel
theorem dX12_common_17 : decode cX12_common 17 = .ok (.istore_n 3, 1) := by decide +kernel
theorem dX12_common_18 : decode cX12_common 18 = .ok (.goto (-14), 3) := by decide +kernel
theorem dX12_common_21 : decode cX12_common 21 = .ok (.iload_n 2, 1) := by decide +kernel
theorem dX12_common_22 : decode cX12_common 22 = .ok (.ireturn, 1) := by decide +kernel
set_option maxRecDepth 20000 in
theorem ggX12_mean_X12_isPart : GoodIn wsX12_mean wsX12_isPart := goodIn_r _ [7, 8, 57, 58, 59, 60, 61, 62, 63, 64, 65, 66, 67, 68, 69, 70, 71, 72, 73, 74, 75, 76, 77, 78, 79, 80, 81, 82, 83, 84, 85, 86, 87, 88, 89, 90, 91, 92, 93, 94, 95, 96, 97, 98, 99, 100, 101, 102, 103, 104, 105, 106, 107, 108, 109, 110, 111, 112, 113] (by decide +kernel) (by decide +kernel)
set_option maxRecDepth 20000 in
theorem gX12_mean_X12_isPart : GoodIn wsX12_mean (wsV RX12 243 RX12 yX12_isPart wsX12_isPart) := goodIn_app (goodIn_of _ (by decide +kernel)) ggX12_mean_X12_isPart
set_option maxRecDepth 20000 in
theorem ggX12_mean_X12_in : GoodIn wsX12_mean wsX12_in := goodIn_r _ [11] (by decide +kernel) (by decide +kernel)
set_option maxRecDepth 20000 in
theorem gX12_mean_X12_in : GoodIn wsX12_mean (va_wsS RX12 132 yX12_in wsX12_in) := goodIn_app (goodIn_of _ (by decide +kernel)) ggX12_mean_X12_in
set_option maxRecDepth 20000 in
theorem ggX12_mean_X12_meanOf : GoodIn wsX12_mean wsX12_meanOf := goodIn_r _ [15, 16, 17, 1, 18, 19, 20, 21, 6, 22, 2, 23, 24, 25, 26, 27, 28, 8, 29, 30, 31, 32, 33, 34, 35, 36, 37, 38, 39, 40, 41, 42, 43, 44, 45, 46, 47, 48, 49, 50, 51, 52, 53, 57, 58, 59, 60, 61, 62, 63, 64, 65, 66, 67, 68, 69, 70, 71, 72, 73, 74, 75, 76, 77, 78, 79, 80, 81, 82, 83, 84, 85, 86, 87, 88, 89, 90, 91, 92, 93, 94, 95, 96, 97, 98, 99, 100, 101, 102, 103, 104, 105, 106, 107, 108, 109, 110, 111, 112, 113] (by decide +kernel) (by decide +kernel)
set_option maxRecDepth 20000 in
theorem gX12_mean_X12_meanOf : GoodIn wsX12_mean (wsV RX12 246 RX12 yX12_meanOf wsX12_meanOf) := goodIn_app (goodIn_of _ (by decide +kernel)) ggX12_mean_X12_meanOf
set_option maxRecDepth 20000 in
theorem ggX12_mean_X12_common : GoodIn wsX12_mean wsX12_common := goodIn_r _ [56] (by decide +kernel) (by decide +kernel)
set_option maxRecDepth 20000 in
theorem gX12_mean_X12_common : GoodIn wsX12_mean (va_wsS RX12 249 yX12_common wsX12_common) := goodIn_app (goodIn_of _ (by decide +kernel)) ggX12_mean_X12_common
theorem dX12_mean_0 : decode cX12_mean 0 = .ok (.aload_n 0, 1) := by decide +kernel
theorem dX12_mean_1 : decode cX12_mean 1 = .ok (.iload_n 1, 1) := by decide +kernel
theorem dX12_mean_2 : decode cX12_mean 2 = .ok (.invokevirtual 243, 3) := by decide +kernel
theorem dX12_mean_5 : decode cX12_mean 5 = .ok (.ifCond .eq 22, 3) := by decide +kernel
theorem dX12_mean_8 : decode cX12_mean 8 = .ok (.iload_n 2, 1) := by decide +kernel
theorem dX12_mean_9 : decode cX12_mean 9 = .ok (.iconst 0, 1) := by decide +kernel
theorem dX12_mean_10 : decode cX12_mean 10 = .ok (.bipush 6, 2) := by decide +kernel
theorem dX12_mean_12 : decode cX12_mean 12 = .ok (.invokestatic 132, 3) := by decide +kernel
theorem dX12_mean_15 : decode cX12_mean 15 = .ok (.ifCond .eq 12, 3) := by decide +kernel
theorem dX12_mean_18 : decode cX12_mean 18 = .ok (.iload_n 3, 1) := by decide +kernel
theorem dX12_mean_19 : decode cX12_mean 19 = .ok (.iconst 0, 1) := by decide +kernel
theorem dX12_mean_20 : decode cX12_mean 20 = .ok (.iconst 1, 1) := by decide +kernel
theorem dX12_mean_21 : decode cX12_mean 21 = .ok (.invokestatic 132, 3) := by decide +kernel
theorem dX12_mean_24 : decode cX12_mean 24 = .ok (.ifCond .ne 5, 3) := by decide +kernel
theorem dX12_mean_27 : decode cX12_mean 27 = .ok (.iconst (-1), 1) := by decide +kernel
theorem dX12_mean_28 : decode cX12_mean 28 = .ok (.ireturn, 1) := by decide +kernel
theorem dX12_mean_29 : decode cX12_mean 29 = .ok (.aload_n 0, 1) := by decide +kernel
theorem dX12_mean_30 : decode cX12_mean 30 = .ok (.iload_n 1, 1) := by decide +kernel
theorem dX12_mean_31 : decode cX12_mean 31 = .ok (.bipush 100, 2) := by decide +kernel
theorem dX12_mean_33 : decode cX12_mean 33 = .ok (.idiv, 1) := by decide +kernel
theorem dX12_mean_34 : decode cX12_mean 34 = .ok (.iload_n 1, 1) := by decide +kernel
theorem dX12_mean_35 : decode cX12_mean 35 = .ok (.bipush 100, 2) := by decide +kernel
theorem dX12_mean_37 : decode cX12_mean 37 = .ok (.irem, 1) := by decide +kernel
theorem dX12_mean_38 : decode cX12_mean 38 = .ok (.iload_n 2, 1) := by decide +kernel
theorem dX12_mean_39 : decode cX12_mean 39 = .ok (.invokevirtual 246, 3) := by decide +kernel
theorem dX12_mean_42 : decode cX12_mean 42 = .ok (.istore 4, 2) := by decide +kernel
theorem dX12_mean_44 : decode cX12_mean 44 = .ok (.iload 4, 2) := by decide +kernel
theorem dX12_mean_46 : decode cX12_mean 46 = .ok (.ldc 220, 2) := by decide +kernel
theorem dX12_mean_48 : decode cX12_mean 48 = .ok (.if_icmp .lt 6, 3) := by decide +kernel
theorem dX12_mean_51 : decode cX12_mean 51 = .ok (.bipush (-2), 2) := by decide +kernel
theorem dX12_mean_53 : decode cX12_mean 53 = .ok (.ireturn, 1) := by decide +kernel
theorem dX12_mean_54 : decode cX12_mean 54 = .ok (.aload_n 0, 1) := by decide +kernel
theorem dX12_mean_55 : decode cX12_mean 55 = .ok (.getfield 75, 3) := by decide +kernel
theorem dX12_mean_58 : decode cX12_mean 58 = .ok (.iload_n 1, 1) := by decide +kernel
theorem dX12_mean_59 : decode cX12_mean 59 = .ok (.bipush 100, 2) := by decide +kernel
theorem dX12_mean_61 : decode cX12_mean 61 = .ok (.irem, 1) := by decide +kernel
theorem dX12_mean_62 : decode cX12_mean 62 = .ok (.iconst 1, 1) := by decide +kernel
theorem dX12_mean_63 : decode cX12_mean 63 = .ok (.iadd, 1) := by decide +kernel
theorem dX12_mean_64 : decode cX12_mean 64 = .ok (.iaload, 1) := by decide +kernel
theorem dX12_mean_65 : decode cX12_mean 65 = .ok (.istore 5, 2) := by decide +kernel
theorem dX12_mean_67 : decode cX12_mean 67 = .ok (.iload 4, 2) := by decide +kernel
theorem dX12_mean_69 : decode cX12_mean 69 = .ok (.iload 5, 2) := by decide +kernel
theorem dX12_mean_71 : decode cX12_mean 71 = .ok (.invokestatic 249, 3) := by decide +kernel
theorem dX12_mean_74 : decode cX12_mean 74 = .ok (.istore 6, 2) := by decide +kernel
theorem dX12_mean_76 : decode cX12_mean 76 = .ok (.iload_n 3, 1) := by decide +kernel
theorem dX12_mean_77 : decode cX12_mean 77 = .ok (.ifCond .ne 11, 3) := by decide +kernel
theorem dX12_mean_80 : decode cX12_mean 80 = .ok (.iload 4, 2) := by decide +kernel
theorem dX12_mean_82 : decode cX12_mean 82 = .ok (.iload 6, 2) := by decide +kernel
theorem dX12_mean_84 : decode cX12_mean 84 = .ok (.idiv, 1) := by decide +kernel
theorem dX12_mean_85 : decode cX12_mean 85 = .ok (.goto 8, 3) := by decide +kernel
theorem dX12_mean_88 : decode cX12_mean 88 = .ok (.iload 5, 2) := by decide +kernel
theorem dX12_mean_90 : decode cX12_mean 90 = .ok (.iload 6, 2) := by decide +kernel
theorem dX12_mean_92 : decode cX12_mean 92 = .ok (.idiv, 1) := by decide +kernel
theorem dX12_mean_93 : decode cX12_mean 93 = .ok (.ireturn, 1) := by decide +kernel
set_option maxRecDepth 20000 in
theorem ggX12_meanFirst_X12_isPart : GoodIn wsX12_meanFirst wsX12_isPart := goodIn_r _ [7, 8, 54, 55, 56, 57, 58, 59, 60, 61, 62, 63, 64, 65, 66, 67, 68, 69, 70, 71, 72, 73, 74, 75, 76, 77, 78, 79, 80, 81, 82, 83, 84, 85, 86, 87, 88, 89, 90, 91, 92, 93, 94, 95, 96, 97, 98, 99, 100, 101, 102, 103, 104, 105, 106, 107, 108, 109, 110] (by decide +kernel) (by decide +kernel)
set_option maxRecDepth 20000 in
theorem gX12_meanFirst_X12_isPart : GoodIn wsX12_meanFirst (wsV RX12 243 RX12 yX12_isPart wsX12_isPart) := goodIn_app (goodIn_of _ (by decide +kernel)) ggX12_meanFirst_X12_isPart
set_option maxRecDepth 20000 in
theorem ggX12_meanFirst_X12_in : GoodIn wsX12_meanFirst wsX12_in := goodIn_r _ [11] (by decide +kernel) (by decide +kernel)
set_option maxRecDepth 20000 in
theorem gX12_meanFirst_X12_in : GoodIn wsX12_meanFirst (va_wsS RX12 132 yX12_in wsX12_in) := goodIn_app (goodIn_of _ (by decide +kernel)) ggX12_meanFirst_X12_in
set_option maxRecDepth 20000 in
theorem ggX12_meanFirst_X12_meanOf : GoodIn wsX12_meanFirst wsX12_meanOf := goodIn_r _ [15, 2, 16, 1, 17, 18, 19, 20, 6, 21, 22, 23, 24, 25, 26, 27, 28, 8, 29, 30, 31, 32, 33, 34, 35, 36, 37, 38, 39, 40, 41, 42, 43, 44, 45, 46, 47, 48, 49, 50, 51, 52, 53, 54, 55, 56, 57, 58, 59, 60, 61, 62, 63, 64, 65, 66, 67, 68, 69, 70, 71, 72, 73, 74, 75, 76, 77, 78, 79, 80, 81, 82, 83, 84, 85, 86, 87, 88, 89, 90, 91, 92, 93, 94, 95, 96, 97, 98, 99, 100, 101, 102, 103, 104, 105, 106, 107, 108, 109, 110] (by decide +kernel) (by decide +kernel)
set_option maxRecDepth 20000 in
theorem gX12_meanFirst_X12_meanOf : GoodIn wsX12_meanFirst (wsV RX12 246 RX12 yX12_meanOf wsX12_meanOf) := goodIn_app (goodIn_of _ (by decide +kernel)) ggX12_meanFirst_X12_meanOf
theorem dX12_meanFirst_0 : decode cX12_meanFirst 0 = .ok (.aload_n 0, 1) := by decide +kernel
theorem dX12_meanFirst_1 : decode cX12_meanFirst 1 = .ok (.iload_n 1, 1) := by decide +kernel
theorem dX12_meanFirst_2 : decode cX12_meanFirst 2 = .ok (.invokevirtual 243, 3) := by decide +kernel
theorem dX12_meanFirst_5 : decode cX12_meanFirst 5 = .ok (.ifCond .eq 13, 3) := by decide +kernel
theorem dX12_meanFirst_8 : decode cX12_meanFirst 8 = .ok (.iload_n 2, 1) := by decide +kernel
theorem dX12_meanFirst_9 : decode cX12_meanFirst 9 = .ok (.iconst 0, 1) := by decide +kernel
theorem dX12_meanFirst_10 : decode cX12_meanFirst 10 = .ok (.bipush 6, 2) := by decide +kernel
theorem dX12_meanFirst_12 : decode cX12_meanFirst 12 = .ok (.invokestatic 132, 3) := by decide +kernel
theorem dX12_meanFirst_15 : decode cX12_meanFirst 15 = .ok (.ifCond .ne 5, 3) := by decide +kernel
theorem dX12_meanFirst_18 : decode cX12_meanFirst 18 = .ok (.iconst (-1), 1) := by decide +kernel
theorem dX12_meanFirst_19 : decode cX12_meanFirst 19 = .ok (.ireturn, 1) := by decide +kernel
theorem dX12_meanFirst_20 : decode cX12_meanFirst 20 = .ok (.iload_n 1, 1) := by decide +kernel
theorem dX12_meanFirst_21 : decode cX12_meanFirst 21 = .ok (.bipush 100, 2) := by decide +kernel
theorem dX12_meanFirst_23 : decode cX12_meanFirst 23 = .ok (.idiv, 1) := by decide +kernel
theorem dX12_meanFirst_24 : decode cX12_meanFirst 24 = .ok (.iload_n 1, 1) := by decide +kernel
theorem dX12_meanFirst_25 : decode cX12_meanFirst 25 = .ok (.bipush 100, 2) := by decide +kernel
theorem dX12_meanFirst_27 : decode cX12_meanFirst 27 = .ok (.irem, 1) := by decide +kernel
theorem dX12_meanFirst_28 : decode cX12_meanFirst 28 = .ok (.if_icmp .eq 21, 3) := by decide +kernel
theorem dX12_meanFirst_31 : decode cX12_meanFirst 31 = .ok (.aload_n 0, 1) := by decide +kernel
theorem dX12_meanFirst_32 : decode cX12_meanFirst 32 = .ok (.iload_n 1, 1) := by decide +kernel
theorem dX12_meanFirst_33 : decode cX12_meanFirst 33 = .ok (.bipush 100, 2) := by decide +kernel
theorem dX12_meanFirst_35 : decode cX12_meanFirst 35 = .ok (.idiv, 1) := by decide +kernel
theorem dX12_meanFirst_36 : decode cX12_meanFirst 36 = .ok (.iload_n 1, 1) := by decide +kernel
theorem dX12_meanFirst_37 : decode cX12_meanFirst 37 = .ok (.bipush 100, 2) := by decide +kernel
theorem dX12_meanFirst_39 : decode cX12_meanFirst 39 = .ok (.irem, 1) := by decide +kernel
theorem dX12_meanFirst_40 : decode cX12_meanFirst 40 = .ok (.iload_n 2, 1) := by decide +kernel
theorem dX12_meanFirst_41 : decode cX12_meanFirst 41 = .ok (.invokevirtual 246, 3) := by decide +kernel
theorem dX12_meanFirst_44 : decode cX12_meanFirst 44 = .ok (.ldc 220, 2) := by decide +kernel
theorem dX12_meanFirst_46 : decode cX12_meanFirst 46 = .ok (.if_icmp .lt 6, 3) := by decide +kernel
theorem dX12_meanFirst_49 : decode cX12_meanFirst 49 = .ok (.bipush (-2), 2) := by decide +kernel
theorem dX12_meanFirst_51 : decode cX12_meanFirst 51 = .ok (.ireturn, 1) := by decide +kernel
theorem dX12_meanFirst_52 : decode cX12_meanFirst 52 = .ok (.aload_n 0, 1) := by decide +kernel
theorem dX12_meanFirst_53 : decode cX12_meanFirst 53 = .ok (.getfield 234, 3) := by decide +kernel
theorem dX12_meanFirst_56 : decode cX12_meanFirst 56 = .ok (.ireturn, 1) := by decide +kernel
theorem dX12_spot_0 : decode cX12_spot 0 = .ok (.bipush 25, 2) := by decide +kernel
theorem dX12_spot_2 : decode cX12_spot 2 = .ok (.iload_n 0, 1) := by decide +kernel
theorem dX12_spot_3 : decode cX12_spot 3 = .ok (.imul, 1) := by decide +kernel
theorem dX12_spot_4 : decode cX12_spot 4 = .ok (.iload_n 1, 1) := by decide +kernel
theorem dX12_spot_5 : decode cX12_spot 5 = .ok (.iadd, 1) := by decide +kernel
theorem dX12_spot_6 : decode cX12_spot 6 = .ok (.iconst 2, 1) := by decide +kernel
theorem dX12_spot_7 : decode cX12_spot 7 = .ok (.imul, 1) := by decide +kernel
theorem dX12_spot_8 : decode cX12_spot 8 = .ok (.iload_n 2, 1) := by decide +kernel
theorem dX12_spot_9 : decode cX12_spot 9 = .ok (.iadd, 1) := by decide +kernel
theorem dX12_spot_10 : decode cX12_spot 10 = .ok (.bipush 7, 2) := by decide +kernel
theorem dX12_spot_12 : decode cX12_spot 12 = .ok (.imul, 1) := by decide +kernel
theorem dX12_spot_13 : decode cX12_spot 13 = .ok (.iload_n 3, 1) := by decide +kernel
theorem dX12_spot_14 : decode cX12_spot 14 = .ok (.iadd, 1) := by decide +kernel
theorem dX12_spot_15 : decode cX12_spot 15 = .ok (.ireturn, 1) := by decide +kernel
set_option maxRecDepth 20000 in
theorem ggX12_leastTrodden_X12_spot : GoodIn wsX12_leastTrodden wsX12_spot := goodIn_r _ [7] (by decide +kernel) (by decide +kernel)
set_option maxRecDepth 20000 in
theorem gX12_leastTrodden_X12_spot : GoodIn wsX12_leastTrodden (va_wsS RX12 255 yX12_spot wsX12_spot) := goodIn_app (goodIn_of _ (by decide +kernel)) ggX12_leastTrodden_X12_spot
set_option maxRecDepth 20000 in
theorem ggX12_leastTrodden_X12_greater : GoodIn wsX12_leastTrodden wsX12_greater := goodIn_r _ [10] (by decide +kernel) (by decide +kernel)
set_option maxRecDepth 20000 in
theorem gX12_leastTrodden_X12_greater : GoodIn wsX12_leastTrodden (va_wsS RX12 221 yX12_greater wsX12_greater) := goodIn_app (goodIn_of _ (by decide +kernel)) ggX12_leastTrodden_X12_greater
theorem dX12_leastTrodden_0 : decode cX12_leastTrodden 0 = .ok (.iload_n 1, 1) := by decide +kernel
theorem dX12_leastTrodden_1 : decode cX12_leastTrodden 1 = .ok (.iload_n 2, 1) := by decide +kernel
theorem dX12_leastTrodden_2 : decode cX12_leastTrodden 2 = .ok (.if_icmp .ne 7, 3) := by decide +kernel
theorem dX12_leastTrodden_5 : decode cX12_leastTrodden 5 = .ok (.iconst 0, 1) := by decide +kernel
theorem dX12_leastTrodden_6 : decode cX12_leastTrodden 6 = .ok (.goto 5, 3) := by decide +kernel
theorem dX12_leastTrodden_9 : decode cX12_leastTrodden 9 = .ok (.ldc 220, 2) := by decide +kernel
theorem dX12_leastTrodden_11 : decode cX12_leastTrodden 11 = .ok (.istore 5, 2) := by decide +kernel
theorem dX12_leastTrodden_13 : decode cX12_leastTrodden 13 = .ok (.aload_n 0, 1) := by decide +kernel
theorem dX12_leastTrodden_14 : decode cX12_leastTrodden 14 = .ok (.bipush (-2), 2) := by decide +kernel
theorem dX12_leastTrodden_16 : decode cX12_leastTrodden 16 = .ok (.putfield 252, 3) := by decide +kernel
theorem dX12_leastTrodden_19 : decode cX12_leastTrodden 19 = .ok (.iload_n 1, 1) := by decide +kernel
theorem dX12_leastTrodden_20 : decode cX12_leastTrodden 20 = .ok (.iconst 1, 1) := by decide +kernel
theorem dX12_leastTrodden_21 : decode cX12_leastTrodden 21 = .ok (.iadd, 1) := by decide +kernel
theorem dX12_leastTrodden_22 : decode cX12_leastTrodden 22 = .ok (.istore 6, 2) := by decide +kernel
theorem dX12_leastTrodden_24 : decode cX12_leastTrodden 24 = .ok (.iload 6, 2) := by decide +kernel
theorem dX12_leastTrodden_26 : decode cX12_leastTrodden 26 = .ok (.iload_n 2, 1) := by decide +kernel
theorem dX12_leastTrodden_27 : decode cX12_leastTrodden 27 = .ok (.if_icmp .gt 93, 3) := by decide +kernel
theorem dX12_leastTrodden_30 : decode cX12_leastTrodden 30 = .ok (.iload 4, 2) := by decide +kernel
theorem dX12_leastTrodden_32 : decode cX12_leastTrodden 32 = .ok (.ifCond .le 88, 3) := by decide +kernel
theorem dX12_leastTrodden_35 : decode cX12_leastTrodden 35 = .ok (.iload 6, 2) := by decide +kernel
theorem dX12_leastTrodden_37 : decode cX12_leastTrodden 37 = .ok (.iload_n 3, 1) := by decide +kernel
theorem dX12_leastTrodden_38 : decode cX12_leastTrodden 38 = .ok (.if_icmp .le 10, 3) := by decide +kernel
theorem dX12_leastTrodden_41 : decode cX12_leastTrodden 41 = .ok (.iload 6, 2) := by decide +kernel
theorem dX12_leastTrodden_43 : decode cX12_leastTrodden 43 = .ok (.iload_n 3, 1) := by decide +kernel
theorem dX12_leastTrodden_44 : decode cX12_leastTrodden 44 = .ok (.isub, 1) := by decide +kernel
theorem dX12_leastTrodden_45 : decode cX12_leastTrodden 45 = .ok (.goto 7, 3) := by decide +kernel
theorem dX12_leastTrodden_48 : decode cX12_leastTrodden 48 = .ok (.iload_n 3, 1) := by decide +kernel
theorem dX12_leastTrodden_49 : decode cX12_leastTrodden 49 = .ok (.iload 6, 2) := by decide +kernel
theorem dX12_leastTrodden_51 : decode cX12_leastTrodden 51 = .ok (.isub, 1) := by decide +kernel
theorem dX12_leastTrodden_52 : decode cX12_leastTrodden 52 = .ok (.istore 7, 2) := by decide +kernel
theorem dX12_leastTrodden_54 : decode cX12_leastTrodden 54 = .ok (.iload 7, 2) := by decide +kernel
theorem dX12_leastTrodden_56 : decode cX12_leastTrodden 56 = .ok (.aload_n 0, 1) := by decide +kernel
theorem dX12_leastTrodden_57 : decode cX12_leastTrodden 57 = .ok (.getfield 78, 3) := by decide +kernel
theorem dX12_leastTrodden_60 : decode cX12_leastTrodden 60 = .ok (.iload_n 1, 1) := by decide +kernel
theorem dX12_leastTrodden_61 : decode cX12_leastTrodden 61 = .ok (.iload 6, 2) := by decide +kernel
theorem dX12_leastTrodden_63 : decode cX12_leastTrodden 63 = .ok (.iconst 1, 1) := by decide +kernel
theorem dX12_leastTrodden_64 : decode cX12_leastTrodden 64 = .ok (.isub, 1) := by decide +kernel
theorem dX12_leastTrodden_65 : decode cX12_leastTrodden 65 = .ok (.iconst 1, 1) := by decide +kernel
theorem dX12_leastTrodden_66 : decode cX12_leastTrodden 66 = .ok (.iload 4, 2) := by decide +kernel
theorem dX12_leastTrodden_68 : decode cX12_leastTrodden 68 = .ok (.iconst 1, 1) := by decide +kernel
theorem dX12_leastTrodden_69 : decode cX12_leastTrodden 69 = .ok (.isub, 1) := by decide +kernel
theorem dX12_leastTrodden_70 : decode cX12_leastTrodden 70 = .ok (.invokestatic 255, 3) := by decide +kernel
theorem dX12_leastTrodden_73 : decode cX12_leastTrodden 73 = .ok (.iaload, 1) := by decide +kernel
theorem dX12_leastTrodden_74 : decode cX12_leastTrodden 74 = .ok (.aload_n 0, 1) := by decide +kernel
theorem dX12_leastTrodden_75 : decode cX12_leastTrodden 75 = .ok (.getfield 78, 3) := by decide +kernel
theorem dX12_leastTrodden_78 : decode cX12_leastTrodden 78 = .ok (.iload 6, 2) := by decide +kernel
theorem dX12_leastTrodden_80 : decode cX12_leastTrodden 80 = .ok (.iload_n 2, 1) := by decide +kernel
theorem dX12_leastTrodden_81 : decode cX12_leastTrodden 81 = .ok (.iconst 0, 1) := by decide +kernel
theorem dX12_leastTrodden_82 : decode cX12_leastTrodden 82 = .ok (.iload 4, 2) := by decide +kernel
theorem dX12_leastTrodden_84 : decode cX12_leastTrodden 84 = .ok (.invokestatic 255, 3) := by decide +kernel
theorem dX12_leastTrodden_87 : decode cX12_leastTrodden 87 = .ok (.iaload, 1) := by decide +kernel
theorem dX12_leastTrodden_88 : decode cX12_leastTrodden 88 = .ok (.invokestatic 221, 3) := by decide +kernel
theorem dX12_leastTrodden_91 : decode cX12_leastTrodden 91 = .ok (.iadd, 1) := by decide +kernel
theorem dX12_leastTrodden_92 : decode cX12_leastTrodden 92 = .ok (.istore 8, 2) := by decide +kernel
theorem dX12_leastTrodden_94 : decode cX12_leastTrodden 94 = .ok (.iload 8, 2) := by decide +kernel
theorem dX12_leastTrodden_96 : decode cX12_leastTrodden 96 = .ok (.iload 5, 2) := by decide +kernel
theorem dX12_leastTrodden_98 : decode cX12_leastTrodden 98 = .ok (.if_icmp .lt 6, 3) := by decide +kernel
theorem dX12_leastTrodden_101 : decode cX12_leastTrodden 101 = .ok (.goto 13, 3) := by decide +kernel
theorem dX12_leastTrodden_104 : decode cX12_leastTrodden 104 = .ok (.iload 8, 2) := by decide +kernel
theorem dX12_leastTrodden_106 : decode cX12_leastTrodden 106 = .ok (.istore 5, 2) := by decide +kernel
theorem dX12_leastTrodden_108 : decode cX12_leastTrodden 108 = .ok (.aload_n 0, 1) := by decide +kernel
theorem dX12_leastTrodden_109 : decode cX12_leastTrodden 109 = .ok (.iload 6, 2) := by decide +kernel
theorem dX12_leastTrodden_111 : decode cX12_leastTrodden 111 = .ok (.putfield 252, 3) := by decide +kernel
theorem dX12_leastTrodden_114 : decode cX12_leastTrodden 114 = .ok (.iinc 6 1, 3) := by decide +kernel
theorem dX12_leastTrodden_117 : decode cX12_leastTrodden 117 = .ok (.goto (-93), 3) := by decide +kernel
theorem dX12_leastTrodden_120 : decode cX12_leastTrodden 120 = .ok (.iload 5, 2) := by decide +kernel
theorem dX12_leastTrodden_122 : decode cX12_leastTrodden 122 = .ok (.ldc 220, 2) := by decide +kernel
theorem dX12_leastTrodden_124 : decode cX12_leastTrodden 124 = .ok (.if_icmp .le 8, 3) := by decide +kernel
theorem dX12_leastTrodden_127 : decode cX12_leastTrodden 127 = .ok (.ldc 220, 2) := by decide +kernel
theorem dX12_leastTrodden_129 : decode cX12_leastTrodden 129 = .ok (.goto 5, 3) := by decide +kernel
theorem dX12_leastTrodden_132 : decode cX12_leastTrodden 132 = .ok (.iload 5, 2) := by decide +kernel
theorem dX12_leastTrodden_134 : decode cX12_leastTrodden 134 = .ok (.ireturn, 1) := by decide +kernel
set_option maxRecDepth 20000 in
theorem ggX12_trodden_X12_isPart : GoodIn wsX12_trodden wsX12_isPart := goodIn_r _ [9, 1, 23, 24, 25, 26, 27, 28, 29, 30, 31, 32, 33, 34, 35, 36, 37, 38, 39, 40, 41, 42, 43, 44, 45, 46, 47, 48, 49, 50, 51, 52, 53, 54, 55, 56, 57, 58, 59, 60, 61, 62, 63, 64, 65, 66, 67, 68, 69, 70, 71, 72, 73, 74, 75, 76, 77, 78, 79] (by decide +kernel) (by decide +kernel)
set_option maxRecDepth 20000 in
theorem gX12_trodden_X12_isPart : GoodIn wsX12_trodden (wsV RX12 243 RX12 yX12_isPart wsX12_isPart) := goodIn_app (goodIn_of _ (by decide +kernel)) ggX12_trodden_X12_isPart
set_option maxRecDepth 20000 in
theorem ggX12_trodden_X12_in : GoodIn wsX12_trodden wsX12_in := goodIn_r _ [12] (by decide +kernel) (by decide +kernel)
set_option maxRecDepth 20000 in
theorem gX12_trodden_X12_in : GoodIn wsX12_trodden (va_wsS RX12 132 yX12_in wsX12_in) := goodIn_app (goodIn_of _ (by decide +kernel)) ggX12_trodden_X12_in
set_option maxRecDepth 20000 in
theorem ggX12_trodden_X12_spot : GoodIn wsX12_trodden wsX12_spot := goodIn_r _ [15] (by decide +kernel) (by decide +kernel)
set_option maxRecDepth 20000 in
theorem gX12_trodden_X12_spot : GoodIn wsX12_trodden (va_wsS RX12 255 yX12_spot wsX12_spot) := goodIn_app (goodIn_of _ (by decide +kernel)) ggX12_trodden_X12_spot
set_option maxRecDepth 20000 in
theorem ggX12_trodden_X12_leastTrodden : GoodIn wsX12_trodden wsX12_leastTrodden := goodIn_r _ [19, 3, 4, 2, 13, 14, 8, 15, 20, 21, 22, 23, 24, 25, 26, 27, 28, 29, 30, 31, 32, 33, 34, 35, 36, 37, 38, 39, 40, 41, 42, 43, 44, 45, 46, 47, 48, 49, 50, 51, 52, 53, 54, 55, 56, 57, 58, 59, 60, 61, 62, 63, 64, 65, 66, 67, 68, 69, 70, 71, 72, 73, 74, 75, 76, 77, 78, 79] (by decide +kernel) (by decide +kernel)
set_option maxRecDepth 20000 in
theorem gX12_trodden_X12_leastTrodden : GoodIn wsX12_trodden (wsV RX12 259 RX12 yX12_leastTrodden wsX12_leastTrodden) := goodIn_app (goodIn_of _ (by decide +kernel)) ggX12_trodden_X12_leastTrodden
theorem dX12_trodden_0 : decode cX12_trodden 0 = .ok (.aload_n 0, 1) := by decide +kernel
theorem dX12_trodden_1 : decode cX12_trodden 1 = .ok (.iload_n 1, 1) := by decide +kernel
theorem dX12_trodden_2 : decode cX12_trodden 2 = .ok (.invokevirtual 243, 3) := by decide +kernel
theorem dX12_trodden_5 : decode cX12_trodden 5 = .ok (.ifCond .eq 36, 3) := by decide +kernel
theorem dX12_trodden_8 : decode cX12_trodden 8 = .ok (.iload_n 2, 1) := by decide +kernel
theorem dX12_trodden_9 : decode cX12_trodden 9 = .ok (.ifCond .lt 32, 3) := by decide +kernel
theorem dX12_trodden_12 : decode cX12_trodden 12 = .ok (.iload_n 2, 1) := by decide +kernel
theorem dX12_trodden_13 : decode cX12_trodden 13 = .ok (.bipush 10, 2) := by decide +kernel
theorem dX12_trodden_15 : decode cX12_trodden 15 = .ok (.idiv, 1) := by decide +kernel
theorem dX12_trodden_16 : decode cX12_trodden 16 = .ok (.aload_n 0, 1) := by decide +kernel
theorem dX12_trodden_17 : decode cX12_trodden 17 = .ok (.getfield 9, 3) := by decide +kernel
theorem dX12_trodden_20 : decode cX12_trodden 20 = .ok (.if_icmp .gt 21, 3) := by decide +kernel
theorem dX12_trodden_23 : decode cX12_trodden 23 = .ok (.iload_n 2, 1) := by decide +kernel
theorem dX12_trodden_24 : decode cX12_trodden 24 = .ok (.bipush 10, 2) := by decide +kernel
theorem dX12_trodden_26 : decode cX12_trodden 26 = .ok (.irem, 1) := by decide +kernel
theorem dX12_trodden_27 : decode cX12_trodden 27 = .ok (.bipush 6, 2) := by decide +kernel
theorem dX12_trodden_29 : decode cX12_trodden 29 = .ok (.if_icmp .gt 12, 3) := by decide +kernel
theorem dX12_trodden_32 : decode cX12_trodden 32 = .ok (.iload_n 3, 1) := by decide +kernel
theorem dX12_trodden_33 : decode cX12_trodden 33 = .ok (.iconst 0, 1) := by decide +kernel
theorem dX12_trodden_34 : decode cX12_trodden 34 = .ok (.iconst 1, 1) := by decide +kernel
theorem dX12_trodden_35 : decode cX12_trodden 35 = .ok (.invokestatic 132, 3) := by decide +kernel
theorem dX12_trodden_38 : decode cX12_trodden 38 = .ok (.ifCond .ne 5, 3) := by decide +kernel
theorem dX12_trodden_41 : decode cX12_trodden 41 = .ok (.iconst (-1), 1) := by decide +kernel
theorem dX12_trodden_42 : decode cX12_trodden 42 = .ok (.ireturn, 1) := by decide +kernel
theorem dX12_trodden_43 : decode cX12_trodden 43 = .ok (.aload_n 0, 1) := by decide +kernel
theorem dX12_trodden_44 : decode cX12_trodden 44 = .ok (.getfield 9, 3) := by decide +kernel
theorem dX12_trodden_47 : decode cX12_trodden 47 = .ok (.bipush 24, 2) := by decide +kernel
theorem dX12_trodden_49 : decode cX12_trodden 49 = .ok (.if_icmp .le 6, 3) := by decide +kernel
theorem dX12_trodden_52 : decode cX12_trodden 52 = .ok (.bipush (-5), 2) := by decide +kernel
theorem dX12_trodden_54 : decode cX12_trodden 54 = .ok (.ireturn, 1) := by decide +kernel
theorem dX12_trodden_55 : decode cX12_trodden 55 = .ok (.iconst 0, 1) := by decide +kernel
theorem dX12_trodden_56 : decode cX12_trodden 56 = .ok (.istore 4, 2) := by decide +kernel
theorem dX12_trodden_58 : decode cX12_trodden 58 = .ok (.iload 4, 2) := by decide +kernel
theorem dX12_trodden_60 : decode cX12_trodden 60 = .ok (.aload_n 0, 1) := by decide +kernel
theorem dX12_trodden_61 : decode cX12_trodden 61 = .ok (.getfield 9, 3) := by decide +kernel
theorem dX12_trodden_64 : decode cX12_trodden 64 = .ok (.if_icmp .gt 117, 3) := by decide +kernel
theorem dX12_trodden_67 : decode cX12_trodden 67 = .ok (.iconst 0, 1) := by decide +kernel
theorem dX12_trodden_68 : decode cX12_trodden 68 = .ok (.istore 5, 2) := by decide +kernel
theorem dX12_trodden_70 : decode cX12_trodden 70 = .ok (.iload 5, 2) := by decide +kernel
theorem dX12_trodden_72 : decode cX12_trodden 72 = .ok (.iload 4, 2) := by decide +kernel
theorem dX12_trodden_74 : decode cX12_trodden 74 = .ok (.iadd, 1) := by decide +kernel
theorem dX12_trodden_75 : decode cX12_trodden 75 = .ok (.aload_n 0, 1) := by decide +kernel
theorem dX12_trodden_76 : decode cX12_trodden 76 = .ok (.getfield 9, 3) := by decide +kernel
theorem dX12_trodden_79 : decode cX12_trodden 79 = .ok (.if_icmp .gt 96, 3) := by decide +kernel
theorem dX12_trodden_82 : decode cX12_trodden 82 = .ok (.iconst 0, 1) := by decide +kernel
theorem dX12_trodden_83 : decode cX12_trodden 83 = .ok (.istore 6, 2) := by decide +kernel
theorem dX12_trodden_85 : decode cX12_trodden 85 = .ok (.iload 6, 2) := by decide +kernel
theorem dX12_trodden_87 : decode cX12_trodden 87 = .ok (.bipush 6, 2) := by decide +kernel
theorem dX12_trodden_89 : decode cX12_trodden 89 = .ok (.if_icmp .gt 80, 3) := by decide +kernel
theorem dX12_trodden_92 : decode cX12_trodden 92 = .ok (.aload_n 0, 1) := by decide +kernel
theorem dX12_trodden_93 : decode cX12_trodden 93 = .ok (.getfield 78, 3) := by decide +kernel
theorem dX12_trodden_96 : decode cX12_trodden 96 = .ok (.iload 5, 2) := by decide +kernel
theorem dX12_trodden_98 : decode cX12_trodden 98 = .ok (.iload 5, 2) := by decide +kernel
theorem dX12_trodden_100 : decode cX12_trodden 100 = .ok (.iload 4, 2) := by decide +kernel
theorem dX12_trodden_102 : decode cX12_trodden 102 = .ok (.iadd, 1) := by decide +kernel
theorem dX12_trodden_103 : decode cX12_trodden 103 = .ok (.iconst 0, 1) := by decide +kernel
theorem dX12_trodden_104 : decode cX12_trodden 104 = .ok (.iload 6, 2) := by decide +kernel
theorem dX12_trodden_106 : decode cX12_trodden 106 = .ok (.invokestatic 255, 3) := by decide +kernel
theorem dX12_trodden_109 : decode cX12_trodden 109 = .ok (.aload_n 0, 1) := by decide +kernel
theorem dX12_trodden_110 : decode cX12_trodden 110 = .ok (.iload 5, 2) := by decide +kernel
theorem dX12_trodden_112 : decode cX12_trodden 112 = .ok (.iload 5, 2) := by decide +kernel
theorem dX12_trodden_114 : decode cX12_trodden 114 = .ok (.iload 4, 2) := by decide +kernel
theorem dX12_trodden_116 : decode cX12_trodden 116 = .ok (.iadd, 1) := by decide +kernel
theorem dX12_trodden_117 : decode cX12_trodden 117 = .ok (.iload 5, 2) := by decide +kernel
theorem dX12_trodden_119 : decode cX12_trodden 119 = .ok (.iload 6, 2) := by decide +kernel
theorem dX12_trodden_121 : decode cX12_trodden 121 = .ok (.invokevirtual 259, 3) := by decide +kernel
theorem dX12_trodden_124 : decode cX12_trodden 124 = .ok (.iastore, 1) := by decide +kernel
theorem dX12_trodden_125 : decode cX12_trodden 125 = .ok (.aload_n 0, 1) := by decide +kernel
theorem dX12_trodden_126 : decode cX12_trodden 126 = .ok (.getfield 78, 3) := by decide +kernel
theorem dX12_trodden_129 : decode cX12_trodden 129 = .ok (.iload 5, 2) := by decide +kernel
theorem dX12_trodden_131 : decode cX12_trodden 131 = .ok (.iload 5, 2) := by decide +kernel
theorem dX12_trodden_133 : decode cX12_trodden 133 = .ok (.iload 4, 2) := by decide +kernel
theorem dX12_trodden_135 : decode cX12_trodden 135 = .ok (.iadd, 1) := by decide +kernel
theorem dX12_trodden_136 : decode cX12_trodden 136 = .ok (.iconst 1, 1) := by decide +kernel
theorem dX12_trodden_137 : decode cX12_trodden 137 = .ok (.iload 6, 2) := by decide +kernel
theorem dX12_trodden_139 : decode cX12_trodden 139 = .ok (.invokestatic 255, 3) := by decide +kernel
theorem dX12_trodden_142 : decode cX12_trodden 142 = .ok (.aload_n 0, 1) := by decide +kernel
theorem dX12_trodden_143 : decode cX12_trodden 143 = .ok (.iload 5, 2) := by decide +kernel
theorem dX12_trodden_145 : decode cX12_trodden 145 = .ok (.iload 5, 2) := by decide +kernel
theorem dX12_trodden_147 : decode cX12_trodden 147 = .ok (.iload 4, 2) := by decide +kernel
theorem dX12_trodden_149 : decode cX12_trodden 149 = .ok (.iadd, 1) := by decide +kernel
theorem dX12_trodden_150 : decode cX12_trodden 150 = .ok (.iload 5, 2) := by decide +kernel
theorem dX12_trodden_152 : decode cX12_trodden 152 = .ok (.iload 4, 2) := by decide +kernel
theorem dX12_trodden_154 : decode cX12_trodden 154 = .ok (.iadd, 1) := by decide +kernel
theorem dX12_trodden_155 : decode cX12_trodden 155 = .ok (.iconst 1, 1) := by decide +kernel
theorem dX12_trodden_156 : decode cX12_trodden 156 = .ok (.iadd, 1) := by decide +kernel
theorem dX12_trodden_157 : decode cX12_trodden 157 = .ok (.iload 6, 2) := by decide +kernel
theorem dX12_trodden_159 : decode cX12_trodden 159 = .ok (.invokevirtual 259, 3) := by decide +kernel
theorem dX12_trodden_162 : decode cX12_trodden 162 = .ok (.iastore, 1) := by decide +kernel
theorem dX12_trodden_163 : decode cX12_trodden 163 = .ok (.iinc 6 1, 3) := by decide +kernel
theorem dX12_trodden_166 : decode cX12_trodden 166 = .ok (.goto (-81), 3) := by decide +kernel
theorem dX12_trodden_169 : decode cX12_trodden 169 = .ok (.iinc 5 1, 3) := by decide +kernel
theorem dX12_trodden_172 : decode cX12_trodden 172 = .ok (.goto (-102), 3) := by decide +kernel
theorem dX12_trodden_175 : decode cX12_trodden 175 = .ok (.iinc 4 1, 3) := by decide +kernel
theorem dX12_trodden_178 : decode cX12_trodden 178 = .ok (.goto (-120), 3) := by decide +kernel
theorem dX12_trodden_181 : decode cX12_trodden 181 = .ok (.aload_n 0, 1) := by decide +kernel
theorem dX12_trodden_182 : decode cX12_trodden 182 = .ok (.iload_n 1, 1) := by decide +kernel
theorem dX12_trodden_183 : decode cX12_trodden 183 = .ok (.bipush 100, 2) := by decide +kernel
theorem dX12_trodden_185 : decode cX12_trodden 185 = .ok (.idiv, 1) := by decide +kernel
theorem dX12_trodden_186 : decode cX12_trodden 186 = .ok (.iload_n 1, 1) := by decide +kernel
theorem dX12_trodden_187 : decode cX12_trodden 187 = .ok (.bipush 100, 2) := by decide +kernel
theorem dX12_trodden_189 : decode cX12_trodden 189 = .ok (.irem, 1) := by decide +kernel
theorem dX12_trodden_190 : decode cX12_trodden 190 = .ok (.iload_n 2, 1) := by decide +kernel
theorem dX12_trodden_191 : decode cX12_trodden 191 = .ok (.bipush 10, 2) := by decide +kernel
theorem dX12_trodden_193 : decode cX12_trodden 193 = .ok (.idiv, 1) := by decide +kernel
theorem dX12_trodden_194 : decode cX12_trodden 194 = .ok (.iload_n 2, 1) := by decide +kernel
theorem dX12_trodden_195 : decode cX12_trodden 195 = .ok (.bipush 10, 2) := by decide +kernel
theorem dX12_trodden_197 : decode cX12_trodden 197 = .ok (.irem, 1) := by decide +kernel
theorem dX12_trodden_198 : decode cX12_trodden 198 = .ok (.invokevirtual 259, 3) := by decide +kernel
theorem dX12_trodden_201 : decode cX12_trodden 201 = .ok (.istore 4, 2) := by decide +kernel
theorem dX12_trodden_203 : decode cX12_trodden 203 = .ok (.iload 4, 2) := by decide +kernel
theorem dX12_trodden_205 : decode cX12_trodden 205 = .ok (.ldc 220, 2) := by decide +kernel
theorem dX12_trodden_207 : decode cX12_trodden 207 = .ok (.if_icmp .lt 8, 3) := by decide +kernel
theorem dX12_trodden_210 : decode cX12_trodden 210 = .ok (.bipush (-2), 2) := by decide +kernel
theorem dX12_trodden_212 : decode cX12_trodden 212 = .ok (.goto 16, 3) := by decide +kernel
theorem dX12_trodden_215 : decode cX12_trodden 215 = .ok (.iload_n 3, 1) := by decide +kernel
theorem dX12_trodden_216 : decode cX12_trodden 216 = .ok (.ifCond .ne 8, 3) := by decide +kernel
theorem dX12_trodden_219 : decode cX12_trodden 219 = .ok (.iload 4, 2) := by decide +kernel
theorem dX12_trodden_221 : decode cX12_trodden 221 = .ok (.goto 7, 3) := by decide +kernel
theorem dX12_trodden_224 : decode cX12_trodden 224 = .ok (.aload_n 0, 1) := by decide +kernel
theorem dX12_trodden_225 : decode cX12_trodden 225 = .ok (.getfield 252, 3) := by decide +kernel
theorem dX12_trodden_228 : decode cX12_trodden 228 = .ok (.ireturn, 1) := by decide +kernel
set_option maxRecDepth 20000 in
theorem ggX12_findPrices_X12_greater : GoodIn wsX12_findPrices wsX12_greater := goodIn_r _ [9] (by decide +kernel) (by decide +kernel)
set_option maxRecDepth 20000 in
theorem gX12_findPrices_X12_greater : GoodIn wsX12_findPrices (va_wsS RX12 221 yX12_greater wsX12_greater) := goodIn_app (goodIn_of _ (by decide +kernel)) ggX12_findPrices_X12_greater
theorem dX12_findPrices_0 : decode cX12_findPrices 0 = .ok (.iconst 1, 1) := by decide +kernel
theorem dX12_findPrices_1 : decode cX12_findPrices 1 = .ok (.istore_n 1, 1) := by decide +kernel
theorem dX12_findPrices_2 : decode cX12_findPrices 2 = .ok (.iload_n 1, 1) := by decide +kernel
theorem dX12_findPrices_3 : decode cX12_findPrices 3 = .ok (.bipush 61, 2) := by decide +kernel
theorem dX12_findPrices_5 : decode cX12_findPrices 5 = .ok (.if_icmp .gt 142, 3) := by decide +kernel
theorem dX12_findPrices_8 : decode cX12_findPrices 8 = .ok (.iconst 0, 1) := by decide +kernel
theorem dX12_findPrices_9 : decode cX12_findPrices 9 = .ok (.istore_n 2, 1) := by decide +kernel
theorem dX12_findPrices_10 : decode cX12_findPrices 10 = .ok (.iload_n 2, 1) := by decide +kernel
theorem dX12_findPrices_11 : decode cX12_findPrices 11 = .ok (.bipush 6, 2) := by decide +kernel
theorem dX12_findPrices_13 : decode cX12_findPrices 13 = .ok (.if_icmp .gt 128, 3) := by decide +kernel
theorem dX12_findPrices_16 : decode cX12_findPrices 16 = .ok (.iload_n 1, 1) := by decide +kernel
theorem dX12_findPrices_17 : decode cX12_findPrices 17 = .ok (.iconst 1, 1) := by decide +kernel
theorem dX12_findPrices_18 : decode cX12_findPrices 18 = .ok (.if_icmp .ne 7, 3) := by decide +kernel
theorem dX12_findPrices_21 : decode cX12_findPrices 21 = .ok (.iconst 0, 1) := by decide +kernel
theorem dX12_findPrices_22 : decode cX12_findPrices 22 = .ok (.goto 5, 3) := by decide +kernel
theorem dX12_findPrices_25 : decode cX12_findPrices 25 = .ok (.ldc 220, 2) := by decide +kernel
theorem dX12_findPrices_27 : decode cX12_findPrices 27 = .ok (.istore_n 3, 1) := by decide +kernel
theorem dX12_findPrices_28 : decode cX12_findPrices 28 = .ok (.bipush (-2), 2) := by decide +kernel
theorem dX12_findPrices_30 : decode cX12_findPrices 30 = .ok (.istore 4, 2) := by decide +kernel
theorem dX12_findPrices_32 : decode cX12_findPrices 32 = .ok (.iconst 1, 1) := by decide +kernel
theorem dX12_findPrices_33 : decode cX12_findPrices 33 = .ok (.istore 5, 2) := by decide +kernel
theorem dX12_findPrices_35 : decode cX12_findPrices 35 = .ok (.iload 5, 2) := by decide +kernel
theorem dX12_findPrices_37 : decode cX12_findPrices 37 = .ok (.iload_n 1, 1) := by decide +kernel
theorem dX12_findPrices_38 : decode cX12_findPrices 38 = .ok (.if_icmp .ge 72, 3) := by decide +kernel
theorem dX12_findPrices_41 : decode cX12_findPrices 41 = .ok (.iload_n 2, 1) := by decide +kernel
theorem dX12_findPrices_42 : decode cX12_findPrices 42 = .ok (.ifCond .le 68, 3) := by decide +kernel
theorem dX12_findPrices_45 : decode cX12_findPrices 45 = .ok (.aload_n 0, 1) := by decide +kernel
theorem dX12_findPrices_46 : decode cX12_findPrices 46 = .ok (.getfield 18, 3) := by decide +kernel
theorem dX12_findPrices_49 : decode cX12_findPrices 49 = .ok (.aload_n 0, 1) := by decide +kernel
theorem dX12_findPrices_50 : decode cX12_findPrices 50 = .ok (.getfield 21, 3) := by decide +kernel
theorem dX12_findPrices_53 : decode cX12_findPrices 53 = .ok (.aload_n 0, 1) := by decide +kernel
theorem dX12_findPrices_54 : decode cX12_findPrices 54 = .ok (.getfield 81, 3) := by decide +kernel
theorem dX12_findPrices_57 : decode cX12_findPrices 57 = .ok (.bipush 7, 2) := by decide +kernel
theorem dX12_findPrices_59 : decode cX12_findPrices 59 = .ok (.iload 5, 2) := by decide +kernel
theorem dX12_findPrices_61 : decode cX12_findPrices 61 = .ok (.imul, 1) := by decide +kernel
theorem dX12_findPrices_62 : decode cX12_findPrices 62 = .ok (.iload_n 2, 1) := by decide +kernel
theorem dX12_findPrices_63 : decode cX12_findPrices 63 = .ok (.iadd, 1) := by decide +kernel
theorem dX12_findPrices_64 : decode cX12_findPrices 64 = .ok (.iconst 1, 1) := by decide +kernel
theorem dX12_findPrices_65 : decode cX12_findPrices 65 = .ok (.isub, 1) := by decide +kernel
theorem dX12_findPrices_66 : decode cX12_findPrices 66 = .ok (.iaload, 1) := by decide +kernel
theorem dX12_findPrices_67 : decode cX12_findPrices 67 = .ok (.iadd, 1) := by decide +kernel
theorem dX12_findPrices_68 : decode cX12_findPrices 68 = .ok (.aload_n 0, 1) := by decide +kernel
theorem dX12_findPrices_69 : decode cX12_findPrices 69 = .ok (.getfield 81, 3) := by decide +kernel
theorem dX12_findPrices_72 : decode cX12_findPrices 72 = .ok (.bipush 7, 2) := by decide +kernel
theorem dX12_findPrices_74 : decode cX12_findPrices 74 = .ok (.iload_n 1, 1) := by decide +kernel
theorem dX12_findPrices_75 : decode cX12_findPrices 75 = .ok (.iload 5, 2) := by decide +kernel
theorem dX12_findPrices_77 : decode cX12_findPrices 77 = .ok (.isub, 1) := by decide +kernel
theorem dX12_findPrices_78 : decode cX12_findPrices 78 = .ok (.imul, 1) := by decide +kernel
theorem dX12_findPrices_79 : decode cX12_findPrices 79 = .ok (.iload_n 2, 1) := by decide +kernel
theorem dX12_findPrices_80 : decode cX12_findPrices 80 = .ok (.iadd, 1) := by decide +kernel
theorem dX12_findPrices_81 : decode cX12_findPrices 81 = .ok (.iaload, 1) := by decide +kernel
theorem dX12_findPrices_82 : decode cX12_findPrices 82 = .ok (.invokestatic 221, 3) := by decide +kernel
theorem dX12_findPrices_85 : decode cX12_findPrices 85 = .ok (.iadd, 1) := by decide +kernel
theorem dX12_findPrices_86 : decode cX12_findPrices 86 = .ok (.istore 6, 2) := by decide +kernel
theorem dX12_findPrices_88 : decode cX12_findPrices 88 = .ok (.iload 6, 2) := by decide +kernel
theorem dX12_findPrices_90 : decode cX12_findPrices 90 = .ok (.iload_n 3, 1) := by decide +kernel
theorem dX12_findPrices_91 : decode cX12_findPrices 91 = .ok (.if_icmp .lt 6, 3) := by decide +kernel
theorem dX12_findPrices_94 : decode cX12_findPrices 94 = .ok (.goto 10, 3) := by decide +kernel
theorem dX12_findPrices_97 : decode cX12_findPrices 97 = .ok (.iload 6, 2) := by decide +kernel
theorem dX12_findPrices_99 : decode cX12_findPrices 99 = .ok (.istore_n 3, 1) := by decide +kernel
theorem dX12_findPrices_100 : decode cX12_findPrices 100 = .ok (.iload 5, 2) := by decide +kernel
theorem dX12_findPrices_102 : decode cX12_findPrices 102 = .ok (.istore 4, 2) := by decide +kernel
theorem dX12_findPrices_104 : decode cX12_findPrices 104 = .ok (.iinc 5 1, 3) := by decide +kernel
theorem dX12_findPrices_107 : decode cX12_findPrices 107 = .ok (.goto (-72), 3) := by decide +kernel
theorem dX12_findPrices_110 : decode cX12_findPrices 110 = .ok (.aload_n 0, 1) := by decide +kernel
theorem dX12_findPrices_111 : decode cX12_findPrices 111 = .ok (.getfield 81, 3) := by decide +kernel
theorem dX12_findPrices_114 : decode cX12_findPrices 114 = .ok (.bipush 7, 2) := by decide +kernel
theorem dX12_findPrices_116 : decode cX12_findPrices 116 = .ok (.iload_n 1, 1) := by decide +kernel
theorem dX12_findPrices_117 : decode cX12_findPrices 117 = .ok (.imul, 1) := by decide +kernel
theorem dX12_findPrices_118 : decode cX12_findPrices 118 = .ok (.iload_n 2, 1) := by decide +kernel
theorem dX12_findPrices_119 : decode cX12_findPrices 119 = .ok (.iadd, 1) := by decide +kernel
theorem dX12_findPrices_120 : decode cX12_findPrices 120 = .ok (.iload_n 3, 1) := by decide +kernel
theorem dX12_findPrices_121 : decode cX12_findPrices 121 = .ok (.iastore, 1) := by decide +kernel
theorem dX12_findPrices_122 : decode cX12_findPrices 122 = .ok (.aload_n 0, 1) := by decide +kernel
theorem dX12_findPrices_123 : decode cX12_findPrices 123 = .ok (.getfield 84, 3) := by decide +kernel
theorem dX12_findPrices_126 : decode cX12_findPrices 126 = .ok (.bipush 7, 2) := by decide +kernel
theorem dX12_findPrices_128 : decode cX12_findPrices 128 = .ok (.iload_n 1, 1) := by decide +kernel
theorem dX12_findPrices_129 : decode cX12_findPrices 129 = .ok (.imul, 1) := by decide +kernel
theorem dX12_findPrices_130 : decode cX12_findPrices 130 = .ok (.iload_n 2, 1) := by decide +kernel
theorem dX12_findPrices_131 : decode cX12_findPrices 131 = .ok (.iadd, 1) := by decide +kernel
theorem dX12_findPrices_132 : decode cX12_findPrices 132 = .ok (.iload 4, 2) := by decide +kernel
theorem dX12_findPrices_134 : decode cX12_findPrices 134 = .ok (.iastore, 1) := by decide +kernel
theorem dX12_findPrices_135 : decode cX12_findPrices 135 = .ok (.iinc 2 1, 3) := by decide +kernel
theorem dX12_findPrices_138 : decode cX12_findPrices 138 = .ok (.goto (-128), 3) := by decide +kernel
theorem dX12_findPrices_141 : decode cX12_findPrices 141 = .ok (.iinc 1 1, 3) := by decide +kernel
theorem dX12_findPrices_144 : decode cX12_findPrices 144 = .ok (.goto (-142), 3) := by decide +kernel
theorem dX12_findPrices_147 : decode cX12_findPrices 147 = .ok (.return_, 1) := by decide +kernel
set_option maxRecDepth 20000 in
theorem ggX12_price_X12_isSpan : GoodIn wsX12_price wsX12_isSpan := goodIn_r _ [7, 8, 9, 6, 10] (by decide +kernel) (by decide +kernel)
set_option maxRecDepth 20000 in
theorem gX12_price_X12_isSpan : GoodIn wsX12_price (va_wsS RX12 224 yX12_isSpan wsX12_isSpan) := goodIn_app (goodIn_of _ (by decide +kernel)) ggX12_price_X12_isSpan
set_option maxRecDepth 20000 in
theorem ggX12_price_X12_in : GoodIn wsX12_price wsX12_in := goodIn_r _ [10] (by decide +kernel) (by decide +kernel)
set_option maxRecDepth 20000 in
theorem gX12_price_X12_in : GoodIn wsX12_price (va_wsS RX12 132 yX12_in wsX12_in) := goodIn_app (goodIn_of _ (by decide +kernel)) ggX12_price_X12_in
set_option maxRecDepth 20000 in
theorem ggX12_price_X12_findPrices : GoodIn wsX12_price wsX12_findPrices := goodIn_r _ [14, 2, 15, 16, 1, 3, 17, 18, 6, 19, 20, 21, 22, 23, 24, 25, 26, 27, 28, 29, 30, 31, 32, 33, 34, 35, 36, 37, 38, 39, 40, 41, 42, 43, 44, 45, 46, 47, 48, 49, 50, 51, 52, 53, 54, 55, 56, 57, 58, 59, 60, 61, 62, 63, 64, 65, 66, 67, 68, 69, 70, 71, 72, 73, 74, 75, 76] (by decide +kernel) (by decide +kernel)
set_option maxRecDepth 20000 in
theorem gX12_price_X12_findPrices : GoodIn wsX12_price (wsV RX12 262 RX12 yX12_findPrices wsX12_findPrices) := goodIn_app (goodIn_of _ (by decide +kernel)) ggX12_price_X12_findPrices
theorem dX12_price_0 : decode cX12_price 0 = .ok (.iload_n 1, 1) := by decide +kernel
theorem dX12_price_1 : decode cX12_price 1 = .ok (.invokestatic 224, 3) := by decide +kernel
theorem dX12_price_4 : decode cX12_price 4 = .ok (.ifCond .eq 12, 3) := by decide +kernel
theorem dX12_price_7 : decode cX12_price 7 = .ok (.iload_n 2, 1) := by decide +kernel
theorem dX12_price_8 : decode cX12_price 8 = .ok (.iconst 0, 1) := by decide +kernel
theorem dX12_price_9 : decode cX12_price 9 = .ok (.iconst 1, 1) := by decide +kernel
theorem dX12_price_10 : decode cX12_price 10 = .ok (.invokestatic 132, 3) := by decide +kernel
theorem dX12_price_13 : decode cX12_price 13 = .ok (.ifCond .ne 5, 3) := by decide +kernel
theorem dX12_price_16 : decode cX12_price 16 = .ok (.iconst (-1), 1) := by decide +kernel
theorem dX12_price_17 : decode cX12_price 17 = .ok (.ireturn, 1) := by decide +kernel
theorem dX12_price_18 : decode cX12_price 18 = .ok (.aload_n 0, 1) := by decide +kernel
theorem dX12_price_19 : decode cX12_price 19 = .ok (.invokevirtual 262, 3) := by decide +kernel
theorem dX12_price_22 : decode cX12_price 22 = .ok (.bipush 7, 2) := by decide +kernel
theorem dX12_price_24 : decode cX12_price 24 = .ok (.iload_n 1, 1) := by decide +kernel
theorem dX12_price_25 : decode cX12_price 25 = .ok (.bipush 10, 2) := by decide +kernel
theorem dX12_price_27 : decode cX12_price 27 = .ok (.idiv, 1) := by decide +kernel
theorem dX12_price_28 : decode cX12_price 28 = .ok (.imul, 1) := by decide +kernel
theorem dX12_price_29 : decode cX12_price 29 = .ok (.iload_n 1, 1) := by decide +kernel
theorem dX12_price_30 : decode cX12_price 30 = .ok (.bipush 10, 2) := by decide +kernel
theorem dX12_price_32 : decode cX12_price 32 = .ok (.irem, 1) := by decide +kernel
theorem dX12_price_33 : decode cX12_price 33 = .ok (.iadd, 1) := by decide +kernel
theorem dX12_price_34 : decode cX12_price 34 = .ok (.istore_n 3, 1) := by decide +kernel
theorem dX12_price_35 : decode cX12_price 35 = .ok (.aload_n 0, 1) := by decide +kernel
theorem dX12_price_36 : decode cX12_price 36 = .ok (.getfield 81, 3) := by decide +kernel
theorem dX12_price_39 : decode cX12_price 39 = .ok (.iload_n 3, 1) := by decide +kernel
theorem dX12_price_40 : decode cX12_price 40 = .ok (.iaload, 1) := by decide +kernel
theorem dX12_price_41 : decode cX12_price 41 = .ok (.ldc 220, 2) := by decide +kernel
theorem dX12_price_43 : decode cX12_price 43 = .ok (.if_icmp .lt 8, 3) := by decide +kernel
theorem dX12_price_46 : decode cX12_price 46 = .ok (.bipush (-2), 2) := by decide +kernel
theorem dX12_price_48 : decode cX12_price 48 = .ok (.goto 22, 3) := by decide +kernel
theorem dX12_price_51 : decode cX12_price 51 = .ok (.iload_n 2, 1) := by decide +kernel
theorem dX12_price_52 : decode cX12_price 52 = .ok (.ifCond .ne 12, 3) := by decide +kernel
theorem dX12_price_55 : decode cX12_price 55 = .ok (.aload_n 0, 1) := by decide +kernel
theorem dX12_price_56 : decode cX12_price 56 = .ok (.getfield 81, 3) := by decide +kernel
theorem dX12_price_59 : decode cX12_price 59 = .ok (.iload_n 3, 1) := by decide +kernel
theorem dX12_price_60 : decode cX12_price 60 = .ok (.iaload, 1) := by decide +kernel
theorem dX12_price_61 : decode cX12_price 61 = .ok (.goto 9, 3) := by decide +kernel
theorem dX12_price_64 : decode cX12_price 64 = .ok (.aload_n 0, 1) := by decide +kernel
theorem dX12_price_65 : decode cX12_price 65 = .ok (.getfield 84, 3) := by decide +kernel
theorem dX12_price_68 : decode cX12_price 68 = .ok (.iload_n 3, 1) := by decide +kernel
theorem dX12_price_69 : decode cX12_price 69 = .ok (.iaload, 1) := by decide +kernel
theorem dX12_price_70 : decode cX12_price 70 = .ok (.ireturn, 1) := by decide +kernel
theorem dX12_pair_0 : decode cX12_pair 0 = .ok (.bipush 32, 2) := by decide +kernel
theorem dX12_pair_2 : decode cX12_pair 2 = .ok (.iload_n 0, 1) := by decide +kernel
theorem dX12_pair_3 : decode cX12_pair 3 = .ok (.imul, 1) := by decide +kernel
theorem dX12_pair_4 : decode cX12_pair 4 = .ok (.iload_n 1, 1) := by decide +kernel
theorem dX12_pair_5 : decode cX12_pair 5 = .ok (.iadd, 1) := by decide +kernel
theorem dX12_pair_6 : decode cX12_pair 6 = .ok (.bipush 7, 2) := by decide +kernel
theorem dX12_pair_8 : decode cX12_pair 8 = .ok (.imul, 1) := by decide +kernel
theorem dX12_pair_9 : decode cX12_pair 9 = .ok (.iload_n 2, 1) := by decide +kernel
theorem dX12_pair_10 : decode cX12_pair 10 = .ok (.iadd, 1) := by decide +kernel
theorem dX12_pair_11 : decode cX12_pair 11 = .ok (.ireturn, 1) := by decide +kernel
set_option maxRecDepth 20000 in
theorem ggX12_leastTwo_X12_pair : GoodIn wsX12_leastTwo wsX12_pair := goodIn_r _ [7] (by decide +kernel) (by decide +kernel)
set_option maxRecDepth 20000 in
theorem gX12_leastTwo_X12_pair : GoodIn wsX12_leastTwo (va_wsS RX12 268 yX12_pair wsX12_pair) := goodIn_app (goodIn_of _ (by decide +kernel)) ggX12_leastTwo_X12_pair
set_option maxRecDepth 20000 in
theorem ggX12_leastTwo_X12_greater : GoodIn wsX12_leastTwo wsX12_greater := goodIn_r _ [10] (by decide +kernel) (by decide +kernel)
set_option maxRecDepth 20000 in
theorem gX12_leastTwo_X12_greater : GoodIn wsX12_leastTwo (va_wsS RX12 221 yX12_greater wsX12_greater) := goodIn_app (goodIn_of _ (by decide +kernel)) ggX12_leastTwo_X12_greater
theorem dX12_leastTwo_0 : decode cX12_leastTwo 0 = .ok (.iload_n 1, 1) := by decide +kernel
theorem dX12_leastTwo_1 : decode cX12_leastTwo 1 = .ok (.iconst 1, 1) := by decide +kernel
theorem dX12_leastTwo_2 : decode cX12_leastTwo 2 = .ok (.if_icmp .ne 12, 3) := by decide +kernel
theorem dX12_leastTwo_5 : decode cX12_leastTwo 5 = .ok (.iload_n 2, 1) := by decide +kernel
theorem dX12_leastTwo_6 : decode cX12_leastTwo 6 = .ok (.iconst 1, 1) := by decide +kernel
theorem dX12_leastTwo_7 : decode cX12_leastTwo 7 = .ok (.if_icmp .ne 7, 3) := by decide +kernel
theorem dX12_leastTwo_10 : decode cX12_leastTwo 10 = .ok (.iconst 0, 1) := by decide +kernel
theorem dX12_leastTwo_11 : decode cX12_leastTwo 11 = .ok (.goto 5, 3) := by decide +kernel
theorem dX12_leastTwo_14 : decode cX12_leastTwo 14 = .ok (.ldc 220, 2) := by decide +kernel
theorem dX12_leastTwo_16 : decode cX12_leastTwo 16 = .ok (.istore 4, 2) := by decide +kernel
theorem dX12_leastTwo_18 : decode cX12_leastTwo 18 = .ok (.aload_n 0, 1) := by decide +kernel
theorem dX12_leastTwo_19 : decode cX12_leastTwo 19 = .ok (.bipush (-2), 2) := by decide +kernel
theorem dX12_leastTwo_21 : decode cX12_leastTwo 21 = .ok (.putfield 265, 3) := by decide +kernel
theorem dX12_leastTwo_24 : decode cX12_leastTwo 24 = .ok (.iconst 1, 1) := by decide +kernel
theorem dX12_leastTwo_25 : decode cX12_leastTwo 25 = .ok (.istore 5, 2) := by decide +kernel
theorem dX12_leastTwo_27 : decode cX12_leastTwo 27 = .ok (.iload 5, 2) := by decide +kernel
theorem dX12_leastTwo_29 : decode cX12_leastTwo 29 = .ok (.iload_n 1, 1) := by decide +kernel
theorem dX12_leastTwo_30 : decode cX12_leastTwo 30 = .ok (.if_icmp .ge 67, 3) := by decide +kernel
theorem dX12_leastTwo_33 : decode cX12_leastTwo 33 = .ok (.iload_n 3, 1) := by decide +kernel
theorem dX12_leastTwo_34 : decode cX12_leastTwo 34 = .ok (.ifCond .le 63, 3) := by decide +kernel
theorem dX12_leastTwo_37 : decode cX12_leastTwo 37 = .ok (.iconst 1, 1) := by decide +kernel
theorem dX12_leastTwo_38 : decode cX12_leastTwo 38 = .ok (.aload_n 0, 1) := by decide +kernel
theorem dX12_leastTwo_39 : decode cX12_leastTwo 39 = .ok (.getfield 87, 3) := by decide +kernel
theorem dX12_leastTwo_42 : decode cX12_leastTwo 42 = .ok (.iload 5, 2) := by decide +kernel
theorem dX12_leastTwo_44 : decode cX12_leastTwo 44 = .ok (.iload_n 2, 1) := by decide +kernel
theorem dX12_leastTwo_45 : decode cX12_leastTwo 45 = .ok (.iload_n 3, 1) := by decide +kernel
theorem dX12_leastTwo_46 : decode cX12_leastTwo 46 = .ok (.iconst 1, 1) := by decide +kernel
theorem dX12_leastTwo_47 : decode cX12_leastTwo 47 = .ok (.isub, 1) := by decide +kernel
theorem dX12_leastTwo_48 : decode cX12_leastTwo 48 = .ok (.invokestatic 268, 3) := by decide +kernel
theorem dX12_leastTwo_51 : decode cX12_leastTwo 51 = .ok (.iaload, 1) := by decide +kernel
theorem dX12_leastTwo_52 : decode cX12_leastTwo 52 = .ok (.aload_n 0, 1) := by decide +kernel
theorem dX12_leastTwo_53 : decode cX12_leastTwo 53 = .ok (.getfield 87, 3) := by decide +kernel
theorem dX12_leastTwo_56 : decode cX12_leastTwo 56 = .ok (.iload_n 1, 1) := by decide +kernel
theorem dX12_leastTwo_57 : decode cX12_leastTwo 57 = .ok (.iload 5, 2) := by decide +kernel
theorem dX12_leastTwo_59 : decode cX12_leastTwo 59 = .ok (.isub, 1) := by decide +kernel
theorem dX12_leastTwo_60 : decode cX12_leastTwo 60 = .ok (.iload_n 2, 1) := by decide +kernel
theorem dX12_leastTwo_61 : decode cX12_leastTwo 61 = .ok (.iload_n 3, 1) := by decide +kernel
theorem dX12_leastTwo_62 : decode cX12_leastTwo 62 = .ok (.invokestatic 268, 3) := by decide +kernel
theorem dX12_leastTwo_65 : decode cX12_leastTwo 65 = .ok (.iaload, 1) := by decide +kernel
theorem dX12_leastTwo_66 : decode cX12_leastTwo 66 = .ok (.invokestatic 221, 3) := by decide +kernel
theorem dX12_leastTwo_69 : decode cX12_leastTwo 69 = .ok (.iadd, 1) := by decide +kernel
theorem dX12_leastTwo_70 : decode cX12_leastTwo 70 = .ok (.istore 6, 2) := by decide +kernel
theorem dX12_leastTwo_72 : decode cX12_leastTwo 72 = .ok (.iload 6, 2) := by decide +kernel
theorem dX12_leastTwo_74 : decode cX12_leastTwo 74 = .ok (.iload 4, 2) := by decide +kernel
theorem dX12_leastTwo_76 : decode cX12_leastTwo 76 = .ok (.if_icmp .lt 6, 3) := by decide +kernel
theorem dX12_leastTwo_79 : decode cX12_leastTwo 79 = .ok (.goto 12, 3) := by decide +kernel
theorem dX12_leastTwo_82 : decode cX12_leastTwo 82 = .ok (.iload 6, 2) := by decide +kernel
theorem dX12_leastTwo_84 : decode cX12_leastTwo 84 = .ok (.istore 4, 2) := by decide +kernel
theorem dX12_leastTwo_86 : decode cX12_leastTwo 86 = .ok (.aload_n 0, 1) := by decide +kernel
theorem dX12_leastTwo_87 : decode cX12_leastTwo 87 = .ok (.iconst 0, 1) := by decide +kernel
theorem dX12_leastTwo_88 : decode cX12_leastTwo 88 = .ok (.putfield 265, 3) := by decide +kernel
theorem dX12_leastTwo_91 : decode cX12_leastTwo 91 = .ok (.iinc 5 1, 3) := by decide +kernel
theorem dX12_leastTwo_94 : decode cX12_leastTwo 94 = .ok (.goto (-67), 3) := by decide +kernel
theorem dX12_leastTwo_97 : decode cX12_leastTwo 97 = .ok (.iconst 1, 1) := by decide +kernel
theorem dX12_leastTwo_98 : decode cX12_leastTwo 98 = .ok (.istore 5, 2) := by decide +kernel
theorem dX12_leastTwo_100 : decode cX12_leastTwo 100 = .ok (.iload 5, 2) := by decide +kernel
theorem dX12_leastTwo_102 : decode cX12_leastTwo 102 = .ok (.iload_n 2, 1) := by decide +kernel
theorem dX12_leastTwo_103 : decode cX12_leastTwo 103 = .ok (.if_icmp .ge 67, 3) := by decide +kernel
theorem dX12_leastTwo_106 : decode cX12_leastTwo 106 = .ok (.iload_n 3, 1) := by decide +kernel
theorem dX12_leastTwo_107 : decode cX12_leastTwo 107 = .ok (.ifCond .le 63, 3) := by decide +kernel
theorem dX12_leastTwo_110 : decode cX12_leastTwo 110 = .ok (.iconst 1, 1) := by decide +kernel
theorem dX12_leastTwo_111 : decode cX12_leastTwo 111 = .ok (.aload_n 0, 1) := by decide +kernel
theorem dX12_leastTwo_112 : decode cX12_leastTwo 112 = .ok (.getfield 87, 3) := by decide +kernel
theorem dX12_leastTwo_115 : decode cX12_leastTwo 115 = .ok (.iload_n 1, 1) := by decide +kernel
theorem dX12_leastTwo_116 : decode cX12_leastTwo 116 = .ok (.iload 5, 2) := by decide +kernel
theorem dX12_leastTwo_118 : decode cX12_leastTwo 118 = .ok (.iload_n 3, 1) := by decide +kernel
theorem dX12_leastTwo_119 : decode cX12_leastTwo 119 = .ok (.iconst 1, 1) := by decide +kernel
theorem dX12_leastTwo_120 : decode cX12_leastTwo 120 = .ok (.isub, 1) := by decide +kernel
theorem dX12_leastTwo_121 : decode cX12_leastTwo 121 = .ok (.invokestatic 268, 3) := by decide +kernel
theorem dX12_leastTwo_124 : decode cX12_leastTwo 124 = .ok (.iaload, 1) := by decide +kernel
theorem dX12_leastTwo_125 : decode cX12_leastTwo 125 = .ok (.aload_n 0, 1) := by decide +kernel
theorem dX12_leastTwo_126 : decode cX12_leastTwo 126 = .ok (.getfield 87, 3) := by decide +kernel
theorem dX12_leastTwo_129 : decode cX12_leastTwo 129 = .ok (.iload_n 1, 1) := by decide +kernel
theorem dX12_leastTwo_130 : decode cX12_leastTwo 130 = .ok (.iload_n 2, 1) := by decide +kernel
theorem dX12_leastTwo_131 : decode cX12_leastTwo 131 = .ok (.iload 5, 2) := by decide +kernel
theorem dX12_leastTwo_133 : decode cX12_leastTwo 133 = .ok (.isub, 1) := by decide +kernel
theorem dX12_leastTwo_134 : decode cX12_leastTwo 134 = .ok (.iload_n 3, 1) := by decide +kernel
theorem dX12_leastTwo_135 : decode cX12_leastTwo 135 = .ok (.invokestatic 268, 3) := by decide +kernel
theorem dX12_leastTwo_138 : decode cX12_leastTwo 138 = .ok (.iaload, 1) := by decide +kernel
theorem dX12_leastTwo_139 : decode cX12_leastTwo 139 = .ok (.invokestatic 221, 3) := by decide +kernel
theorem dX12_leastTwo_142 : decode cX12_leastTwo 142 = .ok (.iadd, 1) := by decide +kernel
theorem dX12_leastTwo_143 : decode cX12_leastTwo 143 = .ok (.istore 6, 2) := by decide +kernel
theorem dX12_leastTwo_145 : decode cX12_leastTwo 145 = .ok (.iload 6, 2) := by decide +kernel
theorem dX12_leastTwo_147 : decode cX12_leastTwo 147 = .ok (.iload 4, 2) := by decide +kernel
theorem dX12_leastTwo_149 : decode cX12_leastTwo 149 = .ok (.if_icmp .lt 6, 3) := by decide +kernel
theorem dX12_leastTwo_152 : decode cX12_leastTwo 152 = .ok (.goto 12, 3) := by decide +kernel
theorem dX12_leastTwo_155 : decode cX12_leastTwo 155 = .ok (.iload 6, 2) := by decide +kernel
theorem dX12_leastTwo_157 : decode cX12_leastTwo 157 = .ok (.istore 4, 2) := by decide +kernel
theorem dX12_leastTwo_159 : decode cX12_leastTwo 159 = .ok (.aload_n 0, 1) := by decide +kernel
theorem dX12_leastTwo_160 : decode cX12_leastTwo 160 = .ok (.iconst 1, 1) := by decide +kernel
theorem dX12_leastTwo_161 : decode cX12_leastTwo 161 = .ok (.putfield 265, 3) := by decide +kernel
theorem dX12_leastTwo_164 : decode cX12_leastTwo 164 = .ok (.iinc 5 1, 3) := by decide +kernel
theorem dX12_leastTwo_167 : decode cX12_leastTwo 167 = .ok (.goto (-67), 3) := by decide +kernel
theorem dX12_leastTwo_170 : decode cX12_leastTwo 170 = .ok (.iload 4, 2) := by decide +kernel
theorem dX12_leastTwo_172 : decode cX12_leastTwo 172 = .ok (.ldc 220, 2) := by decide +kernel
theorem dX12_leastTwo_174 : decode cX12_leastTwo 174 = .ok (.if_icmp .le 8, 3) := by decide +kernel
theorem dX12_leastTwo_177 : decode cX12_leastTwo 177 = .ok (.ldc 220, 2) := by decide +kernel
theorem dX12_leastTwo_179 : decode cX12_leastTwo 179 = .ok (.goto 5, 3) := by decide +kernel
theorem dX12_leastTwo_182 : decode cX12_leastTwo 182 = .ok (.iload 4, 2) := by decide +kernel
theorem dX12_leastTwo_184 : decode cX12_leastTwo 184 = .ok (.ireturn, 1) := by decide +kernel
set_option maxRecDepth 20000 in
theorem ggX12_two_X12_in : GoodIn wsX12_two wsX12_in := goodIn_r _ [7] (by decide +kernel) (by decide +kernel)
set_option maxRecDepth 20000 in
theorem gX12_two_X12_in : GoodIn wsX12_two (va_wsS RX12 132 yX12_in wsX12_in) := goodIn_app (goodIn_of _ (by decide +kernel)) ggX12_two_X12_in
set_option maxRecDepth 20000 in
theorem ggX12_two_X12_pair : GoodIn wsX12_two wsX12_pair := goodIn_r _ [10] (by decide +kernel) (by decide +kernel)
set_option maxRecDepth 20000 in
theorem gX12_two_X12_pair : GoodIn wsX12_two (va_wsS RX12 268 yX12_pair wsX12_pair) := goodIn_app (goodIn_of _ (by decide +kernel)) ggX12_two_X12_pair
set_option maxRecDepth 20000 in
theorem ggX12_two_X12_leastTwo : GoodIn wsX12_two wsX12_leastTwo := goodIn_r _ [14, 2, 3, 1, 8, 9, 6, 10, 15, 16, 17, 18, 19, 20, 21, 22, 23, 24, 25, 26, 27, 28, 29, 30, 31, 32, 33, 34, 35, 36, 37, 38, 39, 40, 41, 42, 43, 44, 45, 46, 47, 48, 49, 50, 51, 52, 53, 54, 55, 56, 57, 58, 59, 60, 61, 62, 63, 64, 65, 66, 67, 68, 69, 70, 71, 72, 73, 74] (by decide +kernel) (by decide +kernel)
set_option maxRecDepth 20000 in
theorem gX12_two_X12_leastTwo : GoodIn wsX12_two (wsV RX12 271 RX12 yX12_leastTwo wsX12_leastTwo) := goodIn_app (goodIn_of _ (by decide +kernel)) ggX12_two_X12_leastTwo
theorem dX12_two_0 : decode cX12_two 0 = .ok (.iload_n 1, 1) := by decide +kernel
theorem dX12_two_1 : decode cX12_two 1 = .ok (.ifCond .lt 48, 3) := by decide +kernel
theorem dX12_two_4 : decode cX12_two 4 = .ok (.iload_n 1, 1) := by decide +kernel
theorem dX12_two_5 : decode cX12_two 5 = .ok (.bipush 100, 2) := by decide +kernel
theorem dX12_two_7 : decode cX12_two 7 = .ok (.idiv, 1) := by decide +kernel
theorem dX12_two_8 : decode cX12_two 8 = .ok (.iconst 1, 1) := by decide +kernel
theorem dX12_two_9 : decode cX12_two 9 = .ok (.bipush 31, 2) := by decide +kernel
theorem dX12_two_11 : decode cX12_two 11 = .ok (.invokestatic 132, 3) := by decide +kernel
theorem dX12_two_14 : decode cX12_two 14 = .ok (.ifCond .eq 35, 3) := by decide +kernel
theorem dX12_two_17 : decode cX12_two 17 = .ok (.iload_n 1, 1) := by decide +kernel
theorem dX12_two_18 : decode cX12_two 18 = .ok (.bipush 100, 2) := by decide +kernel
theorem dX12_two_20 : decode cX12_two 20 = .ok (.irem, 1) := by decide +kernel
theorem dX12_two_21 : decode cX12_two 21 = .ok (.iconst 1, 1) := by decide +kernel
theorem dX12_two_22 : decode cX12_two 22 = .ok (.bipush 31, 2) := by decide +kernel
theorem dX12_two_24 : decode cX12_two 24 = .ok (.invokestatic 132, 3) := by decide +kernel
theorem dX12_two_27 : decode cX12_two 27 = .ok (.ifCond .eq 22, 3) := by decide +kernel
theorem dX12_two_30 : decode cX12_two 30 = .ok (.iload_n 2, 1) := by decide +kernel
theorem dX12_two_31 : decode cX12_two 31 = .ok (.iconst 0, 1) := by decide +kernel
theorem dX12_two_32 : decode cX12_two 32 = .ok (.bipush 6, 2) := by decide +kernel
theorem dX12_two_34 : decode cX12_two 34 = .ok (.invokestatic 132, 3) := by decide +kernel
theorem dX12_two_37 : decode cX12_two 37 = .ok (.ifCond .eq 12, 3) := by decide +kernel
theorem dX12_two_40 : decode cX12_two 40 = .ok (.iload_n 3, 1) := by decide +kernel
theorem dX12_two_41 : decode cX12_two 41 = .ok (.iconst 0, 1) := by decide +kernel
theorem dX12_two_42 : decode cX12_two 42 = .ok (.iconst 1, 1) := by decide +kernel
theorem dX12_two_43 : decode cX12_two 43 = .ok (.invokestatic 132, 3) := by decide +kernel
theorem dX12_two_46 : decode cX12_two 46 = .ok (.ifCond .ne 5, 3) := by decide +kernel
theorem dX12_two_49 : decode cX12_two 49 = .ok (.iconst (-1), 1) := by decide +kernel
theorem dX12_two_50 : decode cX12_two 50 = .ok (.ireturn, 1) := by decide +kernel
theorem dX12_two_51 : decode cX12_two 51 = .ok (.iconst 1, 1) := by decide +kernel
theorem dX12_two_52 : decode cX12_two 52 = .ok (.istore 4, 2) := by decide +kernel
theorem dX12_two_54 : decode cX12_two 54 = .ok (.iload 4, 2) := by decide +kernel
theorem dX12_two_56 : decode cX12_two 56 = .ok (.iload_n 1, 1) := by decide +kernel
theorem dX12_two_57 : decode cX12_two 57 = .ok (.bipush 100, 2) := by decide +kernel
theorem dX12_two_59 : decode cX12_two 59 = .ok (.idiv, 1) := by decide +kernel
theorem dX12_two_60 : decode cX12_two 60 = .ok (.if_icmp .gt 66, 3) := by decide +kernel
theorem dX12_two_63 : decode cX12_two 63 = .ok (.iconst 1, 1) := by decide +kernel
theorem dX12_two_64 : decode cX12_two 64 = .ok (.istore 5, 2) := by decide +kernel
theorem dX12_two_66 : decode cX12_two 66 = .ok (.iload 5, 2) := by decide +kernel
theorem dX12_two_68 : decode cX12_two 68 = .ok (.iload_n 1, 1) := by decide +kernel
theorem dX12_two_69 : decode cX12_two 69 = .ok (.bipush 100, 2) := by decide +kernel
theorem dX12_two_71 : decode cX12_two 71 = .ok (.irem, 1) := by decide +kernel
theorem dX12_two_72 : decode cX12_two 72 = .ok (.if_icmp .gt 48, 3) := by decide +kernel
theorem dX12_two_75 : decode cX12_two 75 = .ok (.iconst 0, 1) := by decide +kernel
theorem dX12_two_76 : decode cX12_two 76 = .ok (.istore 6, 2) := by decide +kernel
theorem dX12_two_78 : decode cX12_two 78 = .ok (.iload 6, 2) := by decide +kernel
theorem dX12_two_80 : decode cX12_two 80 = .ok (.iload_n 2, 1) := by decide +kernel
theorem dX12_two_81 : decode cX12_two 81 = .ok (.if_icmp .gt 33, 3) := by decide +kernel
theorem dX12_two_84 : decode cX12_two 84 = .ok (.aload_n 0, 1) := by decide +kernel
theorem dX12_two_85 : decode cX12_two 85 = .ok (.getfield 87, 3) := by decide +kernel
theorem dX12_two_88 : decode cX12_two 88 = .ok (.iload 4, 2) := by decide +kernel
theorem dX12_two_90 : decode cX12_two 90 = .ok (.iload 5, 2) := by decide +kernel
theorem dX12_two_92 : decode cX12_two 92 = .ok (.iload 6, 2) := by decide +kernel
theorem dX12_two_94 : decode cX12_two 94 = .ok (.invokestatic 268, 3) := by decide +kernel
theorem dX12_two_97 : decode cX12_two 97 = .ok (.aload_n 0, 1) := by decide +kernel
theorem dX12_two_98 : decode cX12_two 98 = .ok (.iload 4, 2) := by decide +kernel
theorem dX12_two_100 : decode cX12_two 100 = .ok (.iload 5, 2) := by decide +kernel
theorem dX12_two_102 : decode cX12_two 102 = .ok (.iload 6, 2) := by decide +kernel
theorem dX12_two_104 : decode cX12_two 104 = .ok (.invokevirtual 271, 3) := by decide +kernel
theorem dX12_two_107 : decode cX12_two 107 = .ok (.iastore, 1) := by decide +kernel
theorem dX12_two_108 : decode cX12_two 108 = .ok (.iinc 6 1, 3) := by decide +kernel
theorem dX12_two_111 : decode cX12_two 111 = .ok (.goto (-33), 3) := by decide +kernel
theorem dX12_two_114 : decode cX12_two 114 = .ok (.iinc 5 1, 3) := by decide +kernel
theorem dX12_two_117 : decode cX12_two 117 = .ok (.goto (-51), 3) := by decide +kernel
theorem dX12_two_120 : decode cX12_two 120 = .ok (.iinc 4 1, 3) := by decide +kernel
theorem dX12_two_123 : decode cX12_two 123 = .ok (.goto (-69), 3) := by decide +kernel
theorem dX12_two_126 : decode cX12_two 126 = .ok (.aload_n 0, 1) := by decide +kernel
theorem dX12_two_127 : decode cX12_two 127 = .ok (.iload_n 1, 1) := by decide +kernel
theorem dX12_two_128 : decode cX12_two 128 = .ok (.bipush 100, 2) := by decide +kernel
theorem dX12_two_130 : decode cX12_two 130 = .ok (.idiv, 1) := by decide +kernel
theorem dX12_two_131 : decode cX12_two 131 = .ok (.iload_n 1, 1) := by decide +kernel
theorem dX12_two_132 : decode cX12_two 132 = .ok (.bipush 100, 2) := by decide +kernel
theorem dX12_two_134 : decode cX12_two 134 = .ok (.irem, 1) := by decide +kernel
theorem dX12_two_135 : decode cX12_two 135 = .ok (.iload_n 2, 1) := by decide +kernel
theorem dX12_two_136 : decode cX12_two 136 = .ok (.invokevirtual 271, 3) := by decide +kernel
theorem dX12_two_139 : decode cX12_two 139 = .ok (.istore 4, 2) := by decide +kernel
theorem dX12_two_141 : decode cX12_two 141 = .ok (.iload 4, 2) := by decide +kernel
theorem dX12_two_143 : decode cX12_two 143 = .ok (.ldc 220, 2) := by decide +kernel
theorem dX12_two_145 : decode cX12_two 145 = .ok (.if_icmp .lt 8, 3) := by decide +kernel
theorem dX12_two_148 : decode cX12_two 148 = .ok (.bipush (-2), 2) := by decide +kernel
theorem dX12_two_150 : decode cX12_two 150 = .ok (.goto 16, 3) := by decide +kernel
theorem dX12_two_153 : decode cX12_two 153 = .ok (.iload_n 3, 1) := by decide +kernel
theorem dX12_two_154 : decode cX12_two 154 = .ok (.ifCond .ne 8, 3) := by decide +kernel
theorem dX12_two_157 : decode cX12_two 157 = .ok (.iload 4, 2) := by decide +kernel
theorem dX12_two_159 : decode cX12_two 159 = .ok (.goto 7, 3) := by decide +kernel
theorem dX12_two_162 : decode cX12_two 162 = .ok (.aload_n 0, 1) := by decide +kernel
theorem dX12_two_163 : decode cX12_two 163 = .ok (.getfield 265, 3) := by decide +kernel
theorem dX12_two_166 : decode cX12_two 166 = .ok (.ireturn, 1) := by decide +kernel
set_option maxRecDepth 20000 in
theorem ggX12_ruleFirst_X12_meanOf : GoodIn wsX12_ruleFirst wsX12_meanOf := goodIn_r _ [7, 2, 8, 9, 10, 11, 12, 13, 6, 14, 15, 16, 17, 18, 19, 20, 21, 22, 23, 24, 25, 26, 27, 28, 29, 30, 31, 32, 33, 34, 35, 36, 37, 38, 39, 40, 41, 42, 43, 44, 45, 46, 47, 48, 49, 50, 51, 52, 53, 54, 55, 56, 57, 58, 59, 60, 61, 62, 63, 64, 65, 66, 67, 68, 69, 70, 71, 72, 73, 74, 75, 76, 77, 78, 79, 80, 81, 82, 83, 84, 85, 86, 87, 88, 89, 90, 91, 92, 93, 94, 95, 96, 97, 98, 99, 100, 101, 102, 103, 104] (by decide +kernel) (by decide +kernel)
set_option maxRecDepth 20000 in
theorem gX12_ruleFirst_X12_meanOf : GoodIn wsX12_ruleFirst (wsV RX12 246 RX12 yX12_meanOf wsX12_meanOf) := goodIn_app (goodIn_of _ (by decide +kernel)) ggX12_ruleFirst_X12_meanOf
theorem dX12_ruleFirst_0 : decode cX12_ruleFirst 0 = .ok (.iload_n 1, 1) := by decide +kernel
theorem dX12_ruleFirst_1 : decode cX12_ruleFirst 1 = .ok (.ifCond .ne 22, 3) := by decide +kernel
theorem dX12_ruleFirst_4 : decode cX12_ruleFirst 4 = .ok (.iload_n 2, 1) := by decide +kernel
theorem dX12_ruleFirst_5 : decode cX12_ruleFirst 5 = .ok (.aload_n 0, 1) := by decide +kernel
theorem dX12_ruleFirst_6 : decode cX12_ruleFirst 6 = .ok (.getfield 66, 3) := by decide +kernel
theorem dX12_ruleFirst_9 : decode cX12_ruleFirst 9 = .ok (.bipush 7, 2) := by decide +kernel
theorem dX12_ruleFirst_11 : decode cX12_ruleFirst 11 = .ok (.iload_n 3, 1) := by decide +kernel
theorem dX12_ruleFirst_12 : decode cX12_ruleFirst 12 = .ok (.iload_n 2, 1) := by decide +kernel
theorem dX12_ruleFirst_13 : decode cX12_ruleFirst 13 = .ok (.isub, 1) := by decide +kernel
theorem dX12_ruleFirst_14 : decode cX12_ruleFirst 14 = .ok (.iconst 1, 1) := by decide +kernel
theorem dX12_ruleFirst_15 : decode cX12_ruleFirst 15 = .ok (.iadd, 1) := by decide +kernel
theorem dX12_ruleFirst_16 : decode cX12_ruleFirst 16 = .ok (.imul, 1) := by decide +kernel
theorem dX12_ruleFirst_17 : decode cX12_ruleFirst 17 = .ok (.iload 4, 2) := by decide +kernel
theorem dX12_ruleFirst_19 : decode cX12_ruleFirst 19 = .ok (.iadd, 1) := by decide +kernel
theorem dX12_ruleFirst_20 : decode cX12_ruleFirst 20 = .ok (.iaload, 1) := by decide +kernel
theorem dX12_ruleFirst_21 : decode cX12_ruleFirst 21 = .ok (.iadd, 1) := by decide +kernel
theorem dX12_ruleFirst_22 : decode cX12_ruleFirst 22 = .ok (.ireturn, 1) := by decide +kernel
theorem dX12_ruleFirst_23 : decode cX12_ruleFirst 23 = .ok (.aload_n 0, 1) := by decide +kernel
theorem dX12_ruleFirst_24 : decode cX12_ruleFirst 24 = .ok (.iload_n 2, 1) := by decide +kernel
theorem dX12_ruleFirst_25 : decode cX12_ruleFirst 25 = .ok (.iload_n 3, 1) := by decide +kernel
theorem dX12_ruleFirst_26 : decode cX12_ruleFirst 26 = .ok (.iload 4, 2) := by decide +kernel
theorem dX12_ruleFirst_28 : decode cX12_ruleFirst 28 = .ok (.invokevirtual 246, 3) := by decide +kernel
theorem dX12_ruleFirst_31 : decode cX12_ruleFirst 31 = .ok (.pop, 1) := by decide +kernel
theorem dX12_ruleFirst_32 : decode cX12_ruleFirst 32 = .ok (.aload_n 0, 1) := by decide +kernel
theorem dX12_ruleFirst_33 : decode cX12_ruleFirst 33 = .ok (.getfield 234, 3) := by decide +kernel
theorem dX12_ruleFirst_36 : decode cX12_ruleFirst 36 = .ok (.ireturn, 1) := by decide +kernel
set_option maxRecDepth 20000 in
theorem ggX12_goRule_X12_findWorst : GoodIn wsX12_goRule wsX12_findWorst := goodIn_r _ [10, 11, 12, 13, 14, 15, 16, 9, 17, 64, 65, 66, 67, 68, 69, 70, 71, 72, 73, 74, 75, 76, 77, 78, 79, 80, 81, 82, 83, 84, 85, 86, 87, 88, 89, 90, 91, 92, 93, 94, 95, 96, 97, 98, 99, 100, 101, 102, 103, 104, 105, 106, 107, 108, 109, 110, 111, 112, 113, 114, 115, 116, 117, 118, 119, 120] (by decide +kernel) (by decide +kernel)
set_option maxRecDepth 20000 in
theorem gX12_goRule_X12_findWorst : GoodIn wsX12_goRule (wsV RX12 228 RX12 yX12_findWorst wsX12_findWorst) := goodIn_app (goodIn_of _ (by decide +kernel)) ggX12_goRule_X12_findWorst
set_option maxRecDepth 20000 in
theorem ggX12_goRule_X12_ruleFirst : GoodIn wsX12_goRule wsX12_ruleFirst := goodIn_r _ [21, 14, 22, 23, 24, 25, 9, 26, 27, 12, 28, 29, 30, 31, 32, 33, 34, 35, 36, 37, 38, 39, 1, 5, 40, 41, 42, 43, 44, 45, 46, 47, 48, 49, 50, 51, 52, 53, 54, 55, 56, 57, 58, 59, 60, 61, 62, 63, 64, 65, 66, 67, 68, 69, 70, 71, 72, 73, 74, 75, 76, 77, 78, 79, 80, 81, 82, 83, 84, 85, 86, 87, 88, 89, 90, 91, 92, 93, 94, 95, 96, 97, 98, 99, 100, 101, 102, 103, 104, 105, 106, 107, 108, 109, 110, 111, 112, 113, 114, 115, 116, 117, 118, 119, 120] (by decide +kernel) (by decide +kernel)
set_option maxRecDepth 20000 in
theorem gX12_goRule_X12_ruleFirst : GoodIn wsX12_goRule (wsV RX12 283 RX12 yX12_ruleFirst wsX12_ruleFirst) := goodIn_app (goodIn_of _ (by decide +kernel)) ggX12_goRule_X12_ruleFirst
theorem dX12_goRule_0 : decode cX12_goRule 0 = .ok (.aload_n 0, 1) := by decide +kernel
theorem dX12_goRule_1 : decode cX12_goRule 1 = .ok (.invokevirtual 228, 3) := by decide +kernel
theorem dX12_goRule_4 : decode cX12_goRule 4 = .ok (.iconst 0, 1) := by decide +kernel
theorem dX12_goRule_5 : decode cX12_goRule 5 = .ok (.istore 4, 2) := by decide +kernel
theorem dX12_goRule_7 : decode cX12_goRule 7 = .ok (.aload_n 0, 1) := by decide +kernel
theorem dX12_goRule_8 : decode cX12_goRule 8 = .ok (.getfield 9, 3) := by decide +kernel
theorem dX12_goRule_11 : decode cX12_goRule 11 = .ok (.istore 5, 2) := by decide +kernel
theorem dX12_goRule_13 : decode cX12_goRule 13 = .ok (.aload_n 0, 1) := by decide +kernel
theorem dX12_goRule_14 : decode cX12_goRule 14 = .ok (.iconst 0, 1) := by decide +kernel
theorem dX12_goRule_15 : decode cX12_goRule 15 = .ok (.putfield 274, 3) := by decide +kernel
theorem dX12_goRule_18 : decode cX12_goRule 18 = .ok (.aload_n 0, 1) := by decide +kernel
theorem dX12_goRule_19 : decode cX12_goRule 19 = .ok (.iconst 0, 1) := by decide +kernel
theorem dX12_goRule_20 : decode cX12_goRule 20 = .ok (.putfield 277, 3) := by decide +kernel
theorem dX12_goRule_23 : decode cX12_goRule 23 = .ok (.aload_n 0, 1) := by decide +kernel
theorem dX12_goRule_24 : decode cX12_goRule 24 = .ok (.bipush (-2), 2) := by decide +kernel
theorem dX12_goRule_26 : decode cX12_goRule 26 = .ok (.putfield 280, 3) := by decide +kernel
theorem dX12_goRule_29 : decode cX12_goRule 29 = .ok (.iload 4, 2) := by decide +kernel
theorem dX12_goRule_31 : decode cX12_goRule 31 = .ok (.iload 5, 2) := by decide +kernel
theorem dX12_goRule_33 : decode cX12_goRule 33 = .ok (.if_icmp .ge 79, 3) := by decide +kernel
theorem dX12_goRule_36 : decode cX12_goRule 36 = .ok (.aload_n 0, 1) := by decide +kernel
theorem dX12_goRule_37 : decode cX12_goRule 37 = .ok (.iload_n 1, 1) := by decide +kernel
theorem dX12_goRule_38 : decode cX12_goRule 38 = .ok (.iload 4, 2) := by decide +kernel
theorem dX12_goRule_40 : decode cX12_goRule 40 = .ok (.iload 5, 2) := by decide +kernel
theorem dX12_goRule_42 : decode cX12_goRule 42 = .ok (.aload_n 0, 1) := by decide +kernel
theorem dX12_goRule_43 : decode cX12_goRule 43 = .ok (.getfield 15, 3) := by decide +kernel
theorem dX12_goRule_46 : decode cX12_goRule 46 = .ok (.aload_n 0, 1) := by decide +kernel
theorem dX12_goRule_47 : decode cX12_goRule 47 = .ok (.getfield 277, 3) := by decide +kernel
theorem dX12_goRule_50 : decode cX12_goRule 50 = .ok (.isub, 1) := by decide +kernel
theorem dX12_goRule_51 : decode cX12_goRule 51 = .ok (.invokevirtual 283, 3) := by decide +kernel
theorem dX12_goRule_54 : decode cX12_goRule 54 = .ok (.istore 6, 2) := by decide +kernel
theorem dX12_goRule_56 : decode cX12_goRule 56 = .ok (.aload_n 0, 1) := by decide +kernel
theorem dX12_goRule_57 : decode cX12_goRule 57 = .ok (.getfield 274, 3) := by decide +kernel
theorem dX12_goRule_60 : decode cX12_goRule 60 = .ok (.iload_n 3, 1) := by decide +kernel
theorem dX12_goRule_61 : decode cX12_goRule 61 = .ok (.if_icmp .ne 9, 3) := by decide +kernel
theorem dX12_goRule_64 : decode cX12_goRule 64 = .ok (.aload_n 0, 1) := by decide +kernel
theorem dX12_goRule_65 : decode cX12_goRule 65 = .ok (.iload 6, 2) := by decide +kernel
theorem dX12_goRule_67 : decode cX12_goRule 67 = .ok (.putfield 280, 3) := by decide +kernel
theorem dX12_goRule_70 : decode cX12_goRule 70 = .ok (.aload_n 0, 1) := by decide +kernel
theorem dX12_goRule_71 : decode cX12_goRule 71 = .ok (.dup, 1) := by decide +kernel
theorem dX12_goRule_72 : decode cX12_goRule 72 = .ok (.getfield 274, 3) := by decide +kernel
theorem dX12_goRule_75 : decode cX12_goRule 75 = .ok (.iconst 1, 1) := by decide +kernel
theorem dX12_goRule_76 : decode cX12_goRule 76 = .ok (.iadd, 1) := by decide +kernel
theorem dX12_goRule_77 : decode cX12_goRule 77 = .ok (.putfield 274, 3) := by decide +kernel
theorem dX12_goRule_80 : decode cX12_goRule 80 = .ok (.iload_n 2, 1) := by decide +kernel
theorem dX12_goRule_81 : decode cX12_goRule 81 = .ok (.iload 6, 2) := by decide +kernel
theorem dX12_goRule_83 : decode cX12_goRule 83 = .ok (.if_icmp .ge 22, 3) := by decide +kernel
theorem dX12_goRule_86 : decode cX12_goRule 86 = .ok (.aload_n 0, 1) := by decide +kernel
theorem dX12_goRule_87 : decode cX12_goRule 87 = .ok (.dup, 1) := by decide +kernel
theorem dX12_goRule_88 : decode cX12_goRule 88 = .ok (.getfield 277, 3) := by decide +kernel
theorem dX12_goRule_91 : decode cX12_goRule 91 = .ok (.iconst 1, 1) := by decide +kernel
theorem dX12_goRule_92 : decode cX12_goRule 92 = .ok (.iadd, 1) := by decide +kernel
theorem dX12_goRule_93 : decode cX12_goRule 93 = .ok (.putfield 277, 3) := by decide +kernel
theorem dX12_goRule_96 : decode cX12_goRule 96 = .ok (.iload 6, 2) := by decide +kernel
theorem dX12_goRule_98 : decode cX12_goRule 98 = .ok (.iconst 1, 1) := by decide +kernel
theorem dX12_goRule_99 : decode cX12_goRule 99 = .ok (.isub, 1) := by decide +kernel
theorem dX12_goRule_100 : decode cX12_goRule 100 = .ok (.istore 5, 2) := by decide +kernel
theorem dX12_goRule_102 : decode cX12_goRule 102 = .ok (.goto 7, 3) := by decide +kernel
theorem dX12_goRule_105 : decode cX12_goRule 105 = .ok (.iload 6, 2) := by decide +kernel
theorem dX12_goRule_107 : decode cX12_goRule 107 = .ok (.istore 4, 2) := by decide +kernel
theorem dX12_goRule_109 : decode cX12_goRule 109 = .ok (.goto (-80), 3) := by decide +kernel
theorem dX12_goRule_112 : decode cX12_goRule 112 = .ok (.return_, 1) := by decide +kernel
set_option maxRecDepth 20000 in
theorem ggX12_ruled_X12_in : GoodIn wsX12_ruled wsX12_in := goodIn_r _ [8] (by decide +kernel) (by decide +kernel)
set_option maxRecDepth 20000 in
theorem gX12_ruled_X12_in : GoodIn wsX12_ruled (va_wsS RX12 132 yX12_in wsX12_in) := goodIn_app (goodIn_of _ (by decide +kernel)) ggX12_ruled_X12_in
set_option maxRecDepth 20000 in
theorem ggX12_ruled_X12_goRule : GoodIn wsX12_ruled wsX12_goRule := goodIn_r _ [12, 1, 3, 4, 13, 2, 14, 15, 16, 7, 17, 18, 19, 20, 21, 22, 23, 24, 25, 26, 27, 28, 29, 30, 31, 32, 33, 34, 35, 36, 37, 38, 39, 40, 41, 42, 43, 44, 45, 46, 47, 48, 49, 50, 51, 52, 53, 54, 55, 56, 57, 58, 59, 60, 61, 62, 63, 64, 65, 66, 67, 68, 69, 70, 71, 72, 73, 74, 75, 76, 77, 78, 79, 80, 81, 82, 83, 84, 85, 86, 87, 88, 89, 90, 91, 92, 93, 94, 95, 96, 97, 98, 99, 100, 101, 102, 103, 104, 105, 106, 107, 108, 109, 110, 111, 112, 113, 114, 115, 116, 117, 118, 119, 120, 121, 122, 123, 124, 125, 126, 127] (by decide +kernel) (by decide +kernel)
set_option maxRecDepth 20000 in
theorem gX12_ruled_X12_goRule : GoodIn wsX12_ruled (wsV RX12 286 RX12 yX12_goRule wsX12_goRule) := goodIn_app (goodIn_of _ (by decide +kernel)) ggX12_ruled_X12_goRule
theorem dX12_ruled_0 : decode cX12_ruled 0 = .ok (.iload_n 1, 1) := by decide +kernel
theorem dX12_ruled_1 : decode cX12_ruled 1 = .ok (.iconst 0, 1) := by decide +kernel
theorem dX12_ruled_2 : decode cX12_ruled 2 = .ok (.iconst 1, 1) := by decide +kernel
theorem dX12_ruled_3 : decode cX12_ruled 3 = .ok (.invokestatic 132, 3) := by decide +kernel
theorem dX12_ruled_6 : decode cX12_ruled 6 = .ok (.ifCond .eq 24, 3) := by decide +kernel
theorem dX12_ruled_9 : decode cX12_ruled 9 = .ok (.iload_n 2, 1) := by decide +kernel
theorem dX12_ruled_10 : decode cX12_ruled 10 = .ok (.iconst 0, 1) := by decide +kernel
theorem dX12_ruled_11 : decode cX12_ruled 11 = .ok (.aload_n 0, 1) := by decide +kernel
theorem dX12_ruled_12 : decode cX12_ruled 12 = .ok (.getfield 9, 3) := by decide +kernel
theorem dX12_ruled_15 : decode cX12_ruled 15 = .ok (.invokestatic 132, 3) := by decide +kernel
theorem dX12_ruled_18 : decode cX12_ruled 18 = .ok (.ifCond .eq 12, 3) := by decide +kernel
theorem dX12_ruled_21 : decode cX12_ruled 21 = .ok (.iload_n 3, 1) := by decide +kernel
theorem dX12_ruled_22 : decode cX12_ruled 22 = .ok (.iconst 0, 1) := by decide +kernel
theorem dX12_ruled_23 : decode cX12_ruled 23 = .ok (.iconst 1, 1) := by decide +kernel
theorem dX12_ruled_24 : decode cX12_ruled 24 = .ok (.invokestatic 132, 3) := by decide +kernel
theorem dX12_ruled_27 : decode cX12_ruled 27 = .ok (.ifCond .ne 5, 3) := by decide +kernel
theorem dX12_ruled_30 : decode cX12_ruled 30 = .ok (.iconst (-1), 1) := by decide +kernel
theorem dX12_ruled_31 : decode cX12_ruled 31 = .ok (.ireturn, 1) := by decide +kernel
theorem dX12_ruled_32 : decode cX12_ruled 32 = .ok (.aload_n 0, 1) := by decide +kernel
theorem dX12_ruled_33 : decode cX12_ruled 33 = .ok (.getfield 15, 3) := by decide +kernel
theorem dX12_ruled_36 : decode cX12_ruled 36 = .ok (.ifCond .ne 6, 3) := by decide +kernel
theorem dX12_ruled_39 : decode cX12_ruled 39 = .ok (.bipush (-2), 2) := by decide +kernel
theorem dX12_ruled_41 : decode cX12_ruled 41 = .ok (.ireturn, 1) := by decide +kernel
theorem dX12_ruled_42 : decode cX12_ruled 42 = .ok (.aload_n 0, 1) := by decide +kernel
theorem dX12_ruled_43 : decode cX12_ruled 43 = .ok (.iload_n 1, 1) := by decide +kernel
theorem dX12_ruled_44 : decode cX12_ruled 44 = .ok (.iload_n 2, 1) := by decide +kernel
theorem dX12_ruled_45 : decode cX12_ruled 45 = .ok (.iconst (-1), 1) := by decide +kernel
theorem dX12_ruled_46 : decode cX12_ruled 46 = .ok (.invokevirtual 286, 3) := by decide +kernel
theorem dX12_ruled_49 : decode cX12_ruled 49 = .ok (.iload_n 3, 1) := by decide +kernel
theorem dX12_ruled_50 : decode cX12_ruled 50 = .ok (.ifCond .ne 10, 3) := by decide +kernel
theorem dX12_ruled_53 : decode cX12_ruled 53 = .ok (.aload_n 0, 1) := by decide +kernel
theorem dX12_ruled_54 : decode cX12_ruled 54 = .ok (.getfield 274, 3) := by decide +kernel
theorem dX12_ruled_57 : decode cX12_ruled 57 = .ok (.goto 7, 3) := by decide +kernel
theorem dX12_ruled_60 : decode cX12_ruled 60 = .ok (.aload_n 0, 1) := by decide +kernel
theorem dX12_ruled_61 : decode cX12_ruled 61 = .ok (.getfield 277, 3) := by decide +kernel
theorem dX12_ruled_64 : decode cX12_ruled 64 = .ok (.ireturn, 1) := by decide +kernel
set_option maxRecDepth 20000 in
theorem ggX12_step_X12_in : GoodIn wsX12_step wsX12_in := goodIn_r _ [7] (by decide +kernel) (by decide +kernel)
set_option maxRecDepth 20000 in
theorem gX12_step_X12_in : GoodIn wsX12_step (va_wsS RX12 132 yX12_in wsX12_in) := goodIn_app (goodIn_of _ (by decide +kernel)) ggX12_step_X12_in
set_option maxRecDepth 20000 in
theorem ggX12_step_X12_goRule : GoodIn wsX12_step wsX12_goRule := goodIn_r _ [11, 1, 12, 13, 3, 2, 14, 15, 16, 6, 17, 18, 19, 20, 21, 22, 23, 24, 25, 26, 27, 28, 29, 30, 31, 32, 33, 34, 35, 36, 37, 38, 39, 40, 41, 42, 43, 44, 45, 46, 47, 48, 49, 50, 51, 52, 53, 54, 55, 56, 57, 58, 59, 60, 61, 62, 63, 64, 65, 66, 67, 68, 69, 70, 71, 72, 73, 74, 75, 76, 77, 78, 79, 80, 81, 82, 83, 84, 85, 86, 87, 88, 89, 90, 91, 92, 93, 94, 95, 96, 97, 98, 99, 100, 101, 102, 103, 104, 105, 106, 107, 108, 109, 110, 111, 112, 113, 114, 115, 116, 117, 118, 119, 120, 121, 122, 123, 124, 125, 126, 127] (by decide +kernel) (by decide +kernel)
set_option maxRecDepth 20000 in
theorem gX12_step_X12_goRule : GoodIn wsX12_step (wsV RX12 286 RX12 yX12_goRule wsX12_goRule) := goodIn_app (goodIn_of _ (by decide +kernel)) ggX12_step_X12_goRule
theorem dX12_step_0 : decode cX12_step 0 = .ok (.iload_n 1, 1) := by decide +kernel
theorem dX12_step_1 : decode cX12_step 1 = .ok (.iconst 0, 1) := by decide +kernel
theorem dX12_step_2 : decode cX12_step 2 = .ok (.iconst 1, 1) := by decide +kernel
theorem dX12_step_3 : decode cX12_step 3 = .ok (.invokestatic 132, 3) := by decide +kernel
theorem dX12_step_6 : decode cX12_step 6 = .ok (.ifCond .eq 19, 3) := by decide +kernel
theorem dX12_step_9 : decode cX12_step 9 = .ok (.iload_n 2, 1) := by decide +kernel
theorem dX12_step_10 : decode cX12_step 10 = .ok (.iconst 0, 1) := by decide +kernel
theorem dX12_step_11 : decode cX12_step 11 = .ok (.aload_n 0, 1) := by decide +kernel
theorem dX12_step_12 : decode cX12_step 12 = .ok (.getfield 9, 3) := by decide +kernel
theorem dX12_step_15 : decode cX12_step 15 = .ok (.invokestatic 132, 3) := by decide +kernel
theorem dX12_step_18 : decode cX12_step 18 = .ok (.ifCond .eq 7, 3) := by decide +kernel
theorem dX12_step_21 : decode cX12_step 21 = .ok (.iload_n 3, 1) := by decide +kernel
theorem dX12_step_22 : decode cX12_step 22 = .ok (.ifCond .ge 5, 3) := by decide +kernel
theorem dX12_step_25 : decode cX12_step 25 = .ok (.iconst (-1), 1) := by decide +kernel
theorem dX12_step_26 : decode cX12_step 26 = .ok (.ireturn, 1) := by decide +kernel
theorem dX12_step_27 : decode cX12_step 27 = .ok (.aload_n 0, 1) := by decide +kernel
theorem dX12_step_28 : decode cX12_step 28 = .ok (.getfield 15, 3) := by decide +kernel
theorem dX12_step_31 : decode cX12_step 31 = .ok (.ifCond .ne 6, 3) := by decide +kernel
theorem dX12_step_34 : decode cX12_step 34 = .ok (.bipush (-2), 2) := by decide +kernel
theorem dX12_step_36 : decode cX12_step 36 = .ok (.ireturn, 1) := by decide +kernel
theorem dX12_step_37 : decode cX12_step 37 = .ok (.aload_n 0, 1) := by decide +kernel
theorem dX12_step_38 : decode cX12_step 38 = .ok (.iload_n 1, 1) := by decide +kernel
theorem dX12_step_39 : decode cX12_step 39 = .ok (.iload_n 2, 1) := by decide +kernel
theorem dX12_step_40 : decode cX12_step 40 = .ok (.iload_n 3, 1) := by decide +kernel
theorem dX12_step_41 : decode cX12_step 41 = .ok (.invokevirtual 286, 3) := by decide +kernel
theorem dX12_step_44 : decode cX12_step 44 = .ok (.aload_n 0, 1) := by decide +kernel
theorem dX12_step_45 : decode cX12_step 45 = .ok (.getfield 280, 3) := by decide +kernel
theorem dX12_step_48 : decode cX12_step 48 = .ok (.ireturn, 1) := by decide +kernel
set_option maxRecDepth 20000 in
theorem ggX12_shards_X12_in : GoodIn wsX12_shards wsX12_in := goodIn_r _ [10] (by decide +kernel) (by decide +kernel)
set_option maxRecDepth 20000 in
theorem gX12_shards_X12_in : GoodIn wsX12_shards (va_wsS RX12 132 yX12_in wsX12_in) := goodIn_app (goodIn_of _ (by decide +kernel)) ggX12_shards_X12_in
set_option maxRecDepth 20000 in
theorem ggX12_shards_X12_goRule : GoodIn wsX12_shards wsX12_goRule := goodIn_r _ [14, 4, 5, 6, 15, 2, 16, 17, 18, 9, 19, 20, 21, 22, 23, 24, 25, 26, 27, 28, 29, 30, 31, 32, 33, 34, 35, 36, 37, 38, 39, 40, 41, 42, 43, 44, 45, 46, 47, 48, 49, 50, 51, 52, 53, 54, 55, 56, 57, 58, 59, 60, 61, 62, 63, 64, 65, 66, 67, 68, 69, 70, 71, 72, 73, 74, 75, 76, 77, 78, 79, 80, 81, 82, 83, 84, 85, 86, 87, 88, 89, 90, 91, 92, 93, 94, 95, 96, 97, 98, 99, 100, 101, 102, 103, 104, 105, 106, 107, 108, 109, 110, 111, 112, 113, 114, 115, 116, 117, 118, 119, 120, 121, 122, 123, 124, 125, 126, 127, 128, 129] (by decide +kernel) (by decide +kernel)
set_option maxRecDepth 20000 in
theorem gX12_shards_X12_goRule : GoodIn wsX12_shards (wsV RX12 286 RX12 yX12_goRule wsX12_goRule) := goodIn_app (goodIn_of _ (by decide +kernel)) ggX12_shards_X12_goRule
theorem dX12_shards_0 : decode cX12_shards 0 = .ok (.iload_n 1, 1) := by decide +kernel
theorem dX12_shards_1 : decode cX12_shards 1 = .ok (.iconst 0, 1) := by decide +kernel
theorem dX12_shards_2 : decode cX12_shards 2 = .ok (.iconst 1, 1) := by decide +kernel
theorem dX12_shards_3 : decode cX12_shards 3 = .ok (.invokestatic 132, 3) := by decide +kernel
theorem dX12_shards_6 : decode cX12_shards 6 = .ok (.ifCond .eq 7, 3) := by decide +kernel
theorem dX12_shards_9 : decode cX12_shards 9 = .ok (.iload_n 2, 1) := by decide +kernel
theorem dX12_shards_10 : decode cX12_shards 10 = .ok (.ifCond .ge 7, 3) := by decide +kernel
theorem dX12_shards_13 : decode cX12_shards 13 = .ok (.ldc2_w 289, 3) := by decide +kernel
theorem dX12_shards_16 : decode cX12_shards 16 = .ok (.lreturn, 1) := by decide +kernel
theorem dX12_shards_17 : decode cX12_shards 17 = .ok (.aload_n 0, 1) := by decide +kernel
theorem dX12_shards_18 : decode cX12_shards 18 = .ok (.getfield 15, 3) := by decide +kernel
theorem dX12_shards_21 : decode cX12_shards 21 = .ok (.ifCond .ne 7, 3) := by decide +kernel
theorem dX12_shards_24 : decode cX12_shards 24 = .ok (.ldc2_w 291, 3) := by decide +kernel
theorem dX12_shards_27 : decode cX12_shards 27 = .ok (.lreturn, 1) := by decide +kernel
theorem dX12_shards_28 : decode cX12_shards 28 = .ok (.lconst 0, 1) := by decide +kernel
theorem dX12_shards_29 : decode cX12_shards 29 = .ok (.lstore_n 3, 1) := by decide +kernel
theorem dX12_shards_30 : decode cX12_shards 30 = .ok (.iconst 0, 1) := by decide +kernel
theorem dX12_shards_31 : decode cX12_shards 31 = .ok (.istore 5, 2) := by decide +kernel
theorem dX12_shards_33 : decode cX12_shards 33 = .ok (.iload 5, 2) := by decide +kernel
theorem dX12_shards_35 : decode cX12_shards 35 = .ok (.aload_n 0, 1) := by decide +kernel
theorem dX12_shards_36 : decode cX12_shards 36 = .ok (.getfield 9, 3) := by decide +kernel
theorem dX12_shards_39 : decode cX12_shards 39 = .ok (.if_icmp .gt 46, 3) := by decide +kernel
theorem dX12_shards_42 : decode cX12_shards 42 = .ok (.aload_n 0, 1) := by decide +kernel
theorem dX12_shards_43 : decode cX12_shards 43 = .ok (.iload_n 1, 1) := by decide +kernel
theorem dX12_shards_44 : decode cX12_shards 44 = .ok (.iload 5, 2) := by decide +kernel
theorem dX12_shards_46 : decode cX12_shards 46 = .ok (.iconst (-1), 1) := by decide +kernel
theorem dX12_shards_47 : decode cX12_shards 47 = .ok (.invokevirtual 286, 3) := by decide +kernel
theorem dX12_shards_50 : decode cX12_shards 50 = .ok (.aload_n 0, 1) := by decide +kernel
theorem dX12_shards_51 : decode cX12_shards 51 = .ok (.getfield 274, 3) := by decide +kernel
theorem dX12_shards_54 : decode cX12_shards 54 = .ok (.iload_n 2, 1) := by decide +kernel
theorem dX12_shards_55 : decode cX12_shards 55 = .ok (.bipush 10, 2) := by decide +kernel
theorem dX12_shards_57 : decode cX12_shards 57 = .ok (.idiv, 1) := by decide +kernel
theorem dX12_shards_58 : decode cX12_shards 58 = .ok (.if_icmp .ne 21, 3) := by decide +kernel
theorem dX12_shards_61 : decode cX12_shards 61 = .ok (.aload_n 0, 1) := by decide +kernel
theorem dX12_shards_62 : decode cX12_shards 62 = .ok (.getfield 277, 3) := by decide +kernel
theorem dX12_shards_65 : decode cX12_shards 65 = .ok (.iload_n 2, 1) := by decide +kernel
theorem dX12_shards_66 : decode cX12_shards 66 = .ok (.bipush 10, 2) := by decide +kernel
theorem dX12_shards_68 : decode cX12_shards 68 = .ok (.irem, 1) := by decide +kernel
theorem dX12_shards_69 : decode cX12_shards 69 = .ok (.if_icmp .ne 10, 3) := by decide +kernel
theorem dX12_shards_72 : decode cX12_shards 72 = .ok (.lload_n 3, 1) := by decide +kernel
theorem dX12_shards_73 : decode cX12_shards 73 = .ok (.lconst 1, 1) := by decide +kernel
theorem dX12_shards_74 : decode cX12_shards 74 = .ok (.iload 5, 2) := by decide +kernel
theorem dX12_shards_76 : decode cX12_shards 76 = .ok (.lshl, 1) := by decide +kernel
theorem dX12_shards_77 : decode cX12_shards 77 = .ok (.lor, 1) := by decide +kernel
theorem dX12_shards_78 : decode cX12_shards 78 = .ok (.lstore_n 3, 1) := by decide +kernel
theorem dX12_shards_79 : decode cX12_shards 79 = .ok (.iinc 5 1, 3) := by decide +kernel
theorem dX12_shards_82 : decode cX12_shards 82 = .ok (.goto (-49), 3) := by decide +kernel
theorem dX12_shards_85 : decode cX12_shards 85 = .ok (.lload_n 3, 1) := by decide +kernel
theorem dX12_shards_86 : decode cX12_shards 86 = .ok (.lreturn, 1) := by decide +kernel
theorem dX12_rowFault_0 : decode cX12_rowFault 0 = .ok (.aload_n 0, 1) := by decide +kernel
theorem dX12_rowFault_1 : decode cX12_rowFault 1 = .ok (.getfield 102, 3) := by decide +kernel
theorem dX12_rowFault_4 : decode cX12_rowFault 4 = .ok (.iload_n 1, 1) := by decide +kernel
theorem dX12_rowFault_5 : decode cX12_rowFault 5 = .ok (.iaload, 1) := by decide +kernel
theorem dX12_rowFault_6 : decode cX12_rowFault 6 = .ok (.iconst (-1), 1) := by decide +kernel
theorem dX12_rowFault_7 : decode cX12_rowFault 7 = .ok (.if_icmp .ne 8, 3) := by decide +kernel
theorem dX12_rowFault_10 : decode cX12_rowFault 10 = .ok (.bipush (-11), 2) := by decide +kernel
theorem dX12_rowFault_12 : decode cX12_rowFault 12 = .ok (.goto 20, 3) := by decide +kernel
theorem dX12_rowFault_15 : decode cX12_rowFault 15 = .ok (.aload_n 0, 1) := by decide +kernel
theorem dX12_rowFault_16 : decode cX12_rowFault 16 = .ok (.getfield 102, 3) := by decide +kernel
theorem dX12_rowFault_19 : decode cX12_rowFault 19 = .ok (.iload_n 1, 1) := by decide +kernel
theorem dX12_rowFault_20 : decode cX12_rowFault 20 = .ok (.iaload, 1) := by decide +kernel
theorem dX12_rowFault_21 : decode cX12_rowFault 21 = .ok (.bipush (-2), 2) := by decide +kernel
theorem dX12_rowFault_23 : decode cX12_rowFault 23 = .ok (.if_icmp .ne 7, 3) := by decide +kernel
theorem dX12_rowFault_26 : decode cX12_rowFault 26 = .ok (.iconst 0, 1) := by decide +kernel
theorem dX12_rowFault_27 : decode cX12_rowFault 27 = .ok (.goto 5, 3) := by decide +kernel
theorem dX12_rowFault_30 : decode cX12_rowFault 30 = .ok (.bipush (-12), 2) := by decide +kernel
theorem dX12_rowFault_32 : decode cX12_rowFault 32 = .ok (.ireturn, 1) := by decide +kernel
set_option maxRecDepth 20000 in
theorem ggX12_goTold_X12_findWorst : GoodIn wsX12_goTold wsX12_findWorst := goodIn_r _ [13, 14, 15, 16, 17, 18, 19, 12, 20, 28, 29, 30, 31, 32, 33, 34, 35, 36, 37, 38, 39, 40, 41, 42, 43, 44, 45, 46, 47, 48, 49, 50, 51, 52, 53, 54, 55, 56, 57, 58, 59, 60, 61, 62, 63, 64, 65, 66, 67, 68, 69, 70, 71, 72, 73, 74, 75, 76, 77, 78, 79, 80, 81, 82, 83, 84] (by decide +kernel) (by decide +kernel)
set_option maxRecDepth 20000 in
theorem gX12_goTold_X12_findWorst : GoodIn wsX12_goTold (wsV RX12 228 RX12 yX12_findWorst wsX12_findWorst) := goodIn_app (goodIn_of _ (by decide +kernel)) ggX12_goTold_X12_findWorst
set_option maxRecDepth 20000 in
theorem ggX12_goTold_X12_in : GoodIn wsX12_goTold wsX12_in := goodIn_r _ [23] (by decide +kernel) (by decide +kernel)
set_option maxRecDepth 20000 in
theorem gX12_goTold_X12_in : GoodIn wsX12_goTold (va_wsS RX12 132 yX12_in wsX12_in) := goodIn_app (goodIn_of _ (by decide +kernel)) ggX12_goTold_X12_in
set_option maxRecDepth 20000 in
theorem ggX12_goTold_X12_isWise : GoodIn wsX12_goTold wsX12_isWise := goodIn_r _ [27, 1, 3, 16, 5, 15, 18, 19, 12, 20, 28, 29, 30, 31, 32, 33, 34, 35, 36, 37, 38, 39, 40, 41, 42, 43, 44, 45, 46, 47, 48, 49, 50, 51, 52, 53, 54, 55, 56, 57, 58, 59, 60, 61, 62, 63, 64, 65, 66, 67, 68, 69, 70, 71, 72, 73, 74, 75, 76, 77, 78, 79, 80, 81, 82, 83, 84] (by decide +kernel) (by decide +kernel)
set_option maxRecDepth 20000 in
theorem gX12_goTold_X12_isWise : GoodIn wsX12_goTold (wsV RX12 305 RX12 yX12_isWise wsX12_isWise) := goodIn_app (goodIn_of _ (by decide +kernel)) ggX12_goTold_X12_isWise
theorem dX12_goTold_0 : decode cX12_goTold 0 = .ok (.aload_n 0, 1) := by decide +kernel
theorem dX12_goTold_1 : decode cX12_goTold 1 = .ok (.invokevirtual 228, 3) := by decide +kernel
theorem dX12_goTold_4 : decode cX12_goTold 4 = .ok (.aload_n 0, 1) := by decide +kernel
theorem dX12_goTold_5 : decode cX12_goTold 5 = .ok (.iconst 0, 1) := by decide +kernel
theorem dX12_goTold_6 : decode cX12_goTold 6 = .ok (.putfield 293, 3) := by decide +kernel
theorem dX12_goTold_9 : decode cX12_goTold 9 = .ok (.aload_n 0, 1) := by decide +kernel
theorem dX12_goTold_10 : decode cX12_goTold 10 = .ok (.aload_n 0, 1) := by decide +kernel
theorem dX12_goTold_11 : decode cX12_goTold 11 = .ok (.getfield 9, 3) := by decide +kernel
theorem dX12_goTold_14 : decode cX12_goTold 14 = .ok (.putfield 296, 3) := by decide +kernel
theorem dX12_goTold_17 : decode cX12_goTold 17 = .ok (.aload_n 0, 1) := by decide +kernel
theorem dX12_goTold_18 : decode cX12_goTold 18 = .ok (.aload_n 0, 1) := by decide +kernel
theorem dX12_goTold_19 : decode cX12_goTold 19 = .ok (.getfield 15, 3) := by decide +kernel
theorem dX12_goTold_22 : decode cX12_goTold 22 = .ok (.putfield 299, 3) := by decide +kernel
theorem dX12_goTold_25 : decode cX12_goTold 25 = .ok (.aload_n 0, 1) := by decide +kernel
theorem dX12_goTold_26 : decode cX12_goTold 26 = .ok (.iconst 0, 1) := by decide +kernel
theorem dX12_goTold_27 : decode cX12_goTold 27 = .ok (.putfield 302, 3) := by decide +kernel
theorem dX12_goTold_30 : decode cX12_goTold 30 = .ok (.iconst 0, 1) := by decide +kernel
theorem dX12_goTold_31 : decode cX12_goTold 31 = .ok (.istore_n 2, 1) := by decide +kernel
theorem dX12_goTold_32 : decode cX12_goTold 32 = .ok (.iconst 2, 1) := by decide +kernel
theorem dX12_goTold_33 : decode cX12_goTold 33 = .ok (.iload_n 2, 1) := by decide +kernel
theorem dX12_goTold_34 : decode cX12_goTold 34 = .ok (.imul, 1) := by decide +kernel
theorem dX12_goTold_35 : decode cX12_goTold 35 = .ok (.aload_n 0, 1) := by decide +kernel
theorem dX12_goTold_36 : decode cX12_goTold 36 = .ok (.getfield 105, 3) := by decide +kernel
theorem dX12_goTold_39 : decode cX12_goTold 39 = .ok (.iload_n 1, 1) := by decide +kernel
theorem dX12_goTold_40 : decode cX12_goTold 40 = .ok (.iaload, 1) := by decide +kernel
theorem dX12_goTold_41 : decode cX12_goTold 41 = .ok (.if_icmp .ge 190, 3) := by decide +kernel
theorem dX12_goTold_44 : decode cX12_goTold 44 = .ok (.iconst 2, 1) := by decide +kernel
theorem dX12_goTold_45 : decode cX12_goTold 45 = .ok (.iload_n 2, 1) := by decide +kernel
theorem dX12_goTold_46 : decode cX12_goTold 46 = .ok (.imul, 1) := by decide +kernel
theorem dX12_goTold_47 : decode cX12_goTold 47 = .ok (.iconst 1, 1) := by decide +kernel
theorem dX12_goTold_48 : decode cX12_goTold 48 = .ok (.iadd, 1) := by decide +kernel
theorem dX12_goTold_49 : decode cX12_goTold 49 = .ok (.aload_n 0, 1) := by decide +kernel
theorem dX12_goTold_50 : decode cX12_goTold 50 = .ok (.getfield 105, 3) := by decide +kernel
theorem dX12_goTold_53 : decode cX12_goTold 53 = .ok (.iload_n 1, 1) := by decide +kernel
theorem dX12_goTold_54 : decode cX12_goTold 54 = .ok (.iaload, 1) := by decide +kernel
theorem dX12_goTold_55 : decode cX12_goTold 55 = .ok (.if_icmp .ge 10, 3) := by decide +kernel
theorem dX12_goTold_58 : decode cX12_goTold 58 = .ok (.aload_n 0, 1) := by decide +kernel
theorem dX12_goTold_59 : decode cX12_goTold 59 = .ok (.getfield 299, 3) := by decide +kernel
theorem dX12_goTold_62 : decode cX12_goTold 62 = .ok (.ifCond .ne 5, 3) := by decide +kernel
theorem dX12_goTold_65 : decode cX12_goTold 65 = .ok (.iload_n 2, 1) := by decide +kernel
theorem dX12_goTold_66 : decode cX12_goTold 66 = .ok (.ireturn, 1) := by decide +kernel
theorem dX12_goTold_67 : decode cX12_goTold 67 = .ok (.aload_n 0, 1) := by decide +kernel
theorem dX12_goTold_68 : decode cX12_goTold 68 = .ok (.getfield 108, 3) := by decide +kernel
theorem dX12_goTold_71 : decode cX12_goTold 71 = .ok (.bipush 60, 2) := by decide +kernel
theorem dX12_goTold_73 : decode cX12_goTold 73 = .ok (.iload_n 1, 1) := by decide +kernel
theorem dX12_goTold_74 : decode cX12_goTold 74 = .ok (.imul, 1) := by decide +kernel
theorem dX12_goTold_75 : decode cX12_goTold 75 = .ok (.iconst 2, 1) := by decide +kernel
theorem dX12_goTold_76 : decode cX12_goTold 76 = .ok (.iload_n 2, 1) := by decide +kernel
theorem dX12_goTold_77 : decode cX12_goTold 77 = .ok (.imul, 1) := by decide +kernel
theorem dX12_goTold_78 : decode cX12_goTold 78 = .ok (.iadd, 1) := by decide +kernel
theorem dX12_goTold_79 : decode cX12_goTold 79 = .ok (.laload, 1) := by decide +kernel
theorem dX12_goTold_80 : decode cX12_goTold 80 = .ok (.l2i, 1) := by decide +kernel
theorem dX12_goTold_81 : decode cX12_goTold 81 = .ok (.istore_n 3, 1) := by decide +kernel
theorem dX12_goTold_82 : decode cX12_goTold 82 = .ok (.aload_n 0, 1) := by decide +kernel
theorem dX12_goTold_83 : decode cX12_goTold 83 = .ok (.getfield 108, 3) := by decide +kernel
theorem dX12_goTold_86 : decode cX12_goTold 86 = .ok (.bipush 60, 2) := by decide +kernel
theorem dX12_goTold_88 : decode cX12_goTold 88 = .ok (.iload_n 1, 1) := by decide +kernel
theorem dX12_goTold_89 : decode cX12_goTold 89 = .ok (.imul, 1) := by decide +kernel
theorem dX12_goTold_90 : decode cX12_goTold 90 = .ok (.iconst 2, 1) := by decide +kernel
theorem dX12_goTold_91 : decode cX12_goTold 91 = .ok (.iload_n 2, 1) := by decide +kernel
theorem dX12_goTold_92 : decode cX12_goTold 92 = .ok (.imul, 1) := by decide +kernel
theorem dX12_goTold_93 : decode cX12_goTold 93 = .ok (.iadd, 1) := by decide +kernel
theorem dX12_goTold_94 : decode cX12_goTold 94 = .ok (.iconst 1, 1) := by decide +kernel
theorem dX12_goTold_95 : decode cX12_goTold 95 = .ok (.iadd, 1) := by decide +kernel
theorem dX12_goTold_96 : decode cX12_goTold 96 = .ok (.laload, 1) := by decide +kernel
theorem dX12_goTold_97 : decode cX12_goTold 97 = .ok (.lstore 4, 2) := by decide +kernel
theorem dX12_goTold_99 : decode cX12_goTold 99 = .ok (.iload_n 3, 1) := by decide +kernel
theorem dX12_goTold_100 : decode cX12_goTold 100 = .ok (.iconst 1, 1) := by decide +kernel
theorem dX12_goTold_101 : decode cX12_goTold 101 = .ok (.aload_n 0, 1) := by decide +kernel
theorem dX12_goTold_102 : decode cX12_goTold 102 = .ok (.getfield 9, 3) := by decide +kernel
theorem dX12_goTold_105 : decode cX12_goTold 105 = .ok (.invokestatic 132, 3) := by decide +kernel
theorem dX12_goTold_108 : decode cX12_goTold 108 = .ok (.ifCond .eq 47, 3) := by decide +kernel
theorem dX12_goTold_111 : decode cX12_goTold 111 = .ok (.lload 4, 2) := by decide +kernel
theorem dX12_goTold_113 : decode cX12_goTold 113 = .ok (.lconst 0, 1) := by decide +kernel
theorem dX12_goTold_114 : decode cX12_goTold 114 = .ok (.lcmp, 1) := by decide +kernel
theorem dX12_goTold_115 : decode cX12_goTold 115 = .ok (.ifCond .lt 40, 3) := by decide +kernel
theorem dX12_goTold_118 : decode cX12_goTold 118 = .ok (.lload 4, 2) := by decide +kernel
theorem dX12_goTold_120 : decode cX12_goTold 120 = .ok (.lconst 1, 1) := by decide +kernel
theorem dX12_goTold_121 : decode cX12_goTold 121 = .ok (.lcmp, 1) := by decide +kernel
theorem dX12_goTold_122 : decode cX12_goTold 122 = .ok (.ifCond .gt 33, 3) := by decide +kernel
theorem dX12_goTold_125 : decode cX12_goTold 125 = .ok (.lload 4, 2) := by decide +kernel
theorem dX12_goTold_127 : decode cX12_goTold 127 = .ok (.lconst 1, 1) := by decide +kernel
theorem dX12_goTold_128 : decode cX12_goTold 128 = .ok (.lcmp, 1) := by decide +kernel
theorem dX12_goTold_129 : decode cX12_goTold 129 = .ok (.ifCond .ne 11, 3) := by decide +kernel
theorem dX12_goTold_132 : decode cX12_goTold 132 = .ok (.iload_n 3, 1) := by decide +kernel
theorem dX12_goTold_133 : decode cX12_goTold 133 = .ok (.aload_n 0, 1) := by decide +kernel
theorem dX12_goTold_134 : decode cX12_goTold 134 = .ok (.getfield 293, 3) := by decide +kernel
theorem dX12_goTold_137 : decode cX12_goTold 137 = .ok (.if_icmp .le 18, 3) := by decide +kernel
theorem dX12_goTold_140 : decode cX12_goTold 140 = .ok (.lload 4, 2) := by decide +kernel
theorem dX12_goTold_142 : decode cX12_goTold 142 = .ok (.lconst 0, 1) := by decide +kernel
theorem dX12_goTold_143 : decode cX12_goTold 143 = .ok (.lcmp, 1) := by decide +kernel
theorem dX12_goTold_144 : decode cX12_goTold 144 = .ok (.ifCond .ne 13, 3) := by decide +kernel
theorem dX12_goTold_147 : decode cX12_goTold 147 = .ok (.iload_n 3, 1) := by decide +kernel
theorem dX12_goTold_148 : decode cX12_goTold 148 = .ok (.aload_n 0, 1) := by decide +kernel
theorem dX12_goTold_149 : decode cX12_goTold 149 = .ok (.getfield 296, 3) := by decide +kernel
theorem dX12_goTold_152 : decode cX12_goTold 152 = .ok (.if_icmp .le 5, 3) := by decide +kernel
theorem dX12_goTold_155 : decode cX12_goTold 155 = .ok (.iload_n 2, 1) := by decide +kernel
theorem dX12_goTold_156 : decode cX12_goTold 156 = .ok (.ireturn, 1) := by decide +kernel
theorem dX12_goTold_157 : decode cX12_goTold 157 = .ok (.aload_n 0, 1) := by decide +kernel
theorem dX12_goTold_158 : decode cX12_goTold 158 = .ok (.iload_n 3, 1) := by decide +kernel
theorem dX12_goTold_159 : decode cX12_goTold 159 = .ok (.invokevirtual 305, 3) := by decide +kernel
theorem dX12_goTold_162 : decode cX12_goTold 162 = .ok (.ifCond .eq 13, 3) := by decide +kernel
theorem dX12_goTold_165 : decode cX12_goTold 165 = .ok (.aload_n 0, 1) := by decide +kernel
theorem dX12_goTold_166 : decode cX12_goTold 166 = .ok (.dup, 1) := by decide +kernel
theorem dX12_goTold_167 : decode cX12_goTold 167 = .ok (.getfield 302, 3) := by decide +kernel
theorem dX12_goTold_170 : decode cX12_goTold 170 = .ok (.iconst 1, 1) := by decide +kernel
theorem dX12_goTold_171 : decode cX12_goTold 171 = .ok (.iadd, 1) := by decide +kernel
theorem dX12_goTold_172 : decode cX12_goTold 172 = .ok (.putfield 302, 3) := by decide +kernel
theorem dX12_goTold_175 : decode cX12_goTold 175 = .ok (.lload 4, 2) := by decide +kernel
theorem dX12_goTold_177 : decode cX12_goTold 177 = .ok (.lconst 1, 1) := by decide +kernel
theorem dX12_goTold_178 : decode cX12_goTold 178 = .ok (.lcmp, 1) := by decide +kernel
theorem dX12_goTold_179 : decode cX12_goTold 179 = .ok (.ifCond .ne 33, 3) := by decide +kernel
theorem dX12_goTold_182 : decode cX12_goTold 182 = .ok (.aload_n 0, 1) := by decide +kernel
theorem dX12_goTold_183 : decode cX12_goTold 183 = .ok (.dup, 1) := by decide +kernel
theorem dX12_goTold_184 : decode cX12_goTold 184 = .ok (.getfield 299, 3) := by decide +kernel
theorem dX12_goTold_187 : decode cX12_goTold 187 = .ok (.iconst 1, 1) := by decide +kernel
theorem dX12_goTold_188 : decode cX12_goTold 188 = .ok (.isub, 1) := by decide +kernel
theorem dX12_goTold_189 : decode cX12_goTold 189 = .ok (.putfield 299, 3) := by decide +kernel
theorem dX12_goTold_192 : decode cX12_goTold 192 = .ok (.iload_n 3, 1) := by decide +kernel
theorem dX12_goTold_193 : decode cX12_goTold 193 = .ok (.iconst 1, 1) := by decide +kernel
theorem dX12_goTold_194 : decode cX12_goTold 194 = .ok (.isub, 1) := by decide +kernel
theorem dX12_goTold_195 : decode cX12_goTold 195 = .ok (.aload_n 0, 1) := by decide +kernel
theorem dX12_goTold_196 : decode cX12_goTold 196 = .ok (.getfield 296, 3) := by decide +kernel
theorem dX12_goTold_199 : decode cX12_goTold 199 = .ok (.if_icmp .ge 26, 3) := by decide +kernel
theorem dX12_goTold_202 : decode cX12_goTold 202 = .ok (.aload_n 0, 1) := by decide +kernel
theorem dX12_goTold_203 : decode cX12_goTold 203 = .ok (.iload_n 3, 1) := by decide +kernel
theorem dX12_goTold_204 : decode cX12_goTold 204 = .ok (.iconst 1, 1) := by decide +kernel
theorem dX12_goTold_205 : decode cX12_goTold 205 = .ok (.isub, 1) := by decide +kernel
theorem dX12_goTold_206 : decode cX12_goTold 206 = .ok (.putfield 296, 3) := by decide +kernel
theorem dX12_goTold_209 : decode cX12_goTold 209 = .ok (.goto 16, 3) := by decide +kernel
theorem dX12_goTold_212 : decode cX12_goTold 212 = .ok (.iload_n 3, 1) := by decide +kernel
theorem dX12_goTold_213 : decode cX12_goTold 213 = .ok (.aload_n 0, 1) := by decide +kernel
theorem dX12_goTold_214 : decode cX12_goTold 214 = .ok (.getfield 293, 3) := by decide +kernel
theorem dX12_goTold_217 : decode cX12_goTold 217 = .ok (.if_icmp .le 8, 3) := by decide +kernel
theorem dX12_goTold_220 : decode cX12_goTold 220 = .ok (.aload_n 0, 1) := by decide +kernel
theorem dX12_goTold_221 : decode cX12_goTold 221 = .ok (.iload_n 3, 1) := by decide +kernel
theorem dX12_goTold_222 : decode cX12_goTold 222 = .ok (.putfield 293, 3) := by decide +kernel
theorem dX12_goTold_225 : decode cX12_goTold 225 = .ok (.iinc 2 1, 3) := by decide +kernel
theorem dX12_goTold_228 : decode cX12_goTold 228 = .ok (.goto (-196), 3) := by decide +kernel
theorem dX12_goTold_231 : decode cX12_goTold 231 = .ok (.bipush (-2), 2) := by decide +kernel
theorem dX12_goTold_233 : decode cX12_goTold 233 = .ok (.ireturn, 1) := by decide +kernel
set_option maxRecDepth 20000 in
theorem ggX12_isWise_X12_greater : GoodIn wsX12_isWise wsX12_greater := goodIn_r _ [9] (by decide +kernel) (by decide +kernel)
set_option maxRecDepth 20000 in
theorem gX12_isWise_X12_greater : GoodIn wsX12_isWise (va_wsS RX12 221 yX12_greater wsX12_greater) := goodIn_app (goodIn_of _ (by decide +kernel)) ggX12_isWise_X12_greater
theorem dX12_isWise_0 : decode cX12_isWise 0 = .ok (.iload_n 1, 1) := by decide +kernel
theorem dX12_isWise_1 : decode cX12_isWise 1 = .ok (.aload_n 0, 1) := by decide +kernel
theorem dX12_isWise_2 : decode cX12_isWise 2 = .ok (.getfield 293, 3) := by decide +kernel
theorem dX12_isWise_5 : decode cX12_isWise 5 = .ok (.if_icmp .le 11, 3) := by decide +kernel
theorem dX12_isWise_8 : decode cX12_isWise 8 = .ok (.iload_n 1, 1) := by decide +kernel
theorem dX12_isWise_9 : decode cX12_isWise 9 = .ok (.aload_n 0, 1) := by decide +kernel
theorem dX12_isWise_10 : decode cX12_isWise 10 = .ok (.getfield 296, 3) := by decide +kernel
theorem dX12_isWise_13 : decode cX12_isWise 13 = .ok (.if_icmp .le 5, 3) := by decide +kernel
theorem dX12_isWise_16 : decode cX12_isWise 16 = .ok (.iconst 0, 1) := by decide +kernel
theorem dX12_isWise_17 : decode cX12_isWise 17 = .ok (.ireturn, 1) := by decide +kernel
theorem dX12_isWise_18 : decode cX12_isWise 18 = .ok (.aload_n 0, 1) := by decide +kernel
theorem dX12_isWise_19 : decode cX12_isWise 19 = .ok (.getfield 63, 3) := by decide +kernel
theorem dX12_isWise_22 : decode cX12_isWise 22 = .ok (.bipush 7, 2) := by decide +kernel
theorem dX12_isWise_24 : decode cX12_isWise 24 = .ok (.aload_n 0, 1) := by decide +kernel
theorem dX12_isWise_25 : decode cX12_isWise 25 = .ok (.getfield 296, 3) := by decide +kernel
theorem dX12_isWise_28 : decode cX12_isWise 28 = .ok (.aload_n 0, 1) := by decide +kernel
theorem dX12_isWise_29 : decode cX12_isWise 29 = .ok (.getfield 293, 3) := by decide +kernel
theorem dX12_isWise_32 : decode cX12_isWise 32 = .ok (.isub, 1) := by decide +kernel
theorem dX12_isWise_33 : decode cX12_isWise 33 = .ok (.iconst 1, 1) := by decide +kernel
theorem dX12_isWise_34 : decode cX12_isWise 34 = .ok (.iadd, 1) := by decide +kernel
theorem dX12_isWise_35 : decode cX12_isWise 35 = .ok (.imul, 1) := by decide +kernel
theorem dX12_isWise_36 : decode cX12_isWise 36 = .ok (.aload_n 0, 1) := by decide +kernel
theorem dX12_isWise_37 : decode cX12_isWise 37 = .ok (.getfield 299, 3) := by decide +kernel
theorem dX12_isWise_40 : decode cX12_isWise 40 = .ok (.iadd, 1) := by decide +kernel
theorem dX12_isWise_41 : decode cX12_isWise 41 = .ok (.iaload, 1) := by decide +kernel
theorem dX12_isWise_42 : decode cX12_isWise 42 = .ok (.istore_n 2, 1) := by decide +kernel
theorem dX12_isWise_43 : decode cX12_isWise 43 = .ok (.iload_n 2, 1) := by decide +kernel
theorem dX12_isWise_44 : decode cX12_isWise 44 = .ok (.ldc 220, 2) := by decide +kernel
theorem dX12_isWise_46 : decode cX12_isWise 46 = .ok (.if_icmp .ge 58, 3) := by decide +kernel
theorem dX12_isWise_49 : decode cX12_isWise 49 = .ok (.iconst 1, 1) := by decide +kernel
theorem dX12_isWise_50 : decode cX12_isWise 50 = .ok (.aload_n 0, 1) := by decide +kernel
theorem dX12_isWise_51 : decode cX12_isWise 51 = .ok (.getfield 63, 3) := by decide +kernel
theorem dX12_isWise_54 : decode cX12_isWise 54 = .ok (.bipush 7, 2) := by decide +kernel
theorem dX12_isWise_56 : decode cX12_isWise 56 = .ok (.iload_n 1, 1) := by decide +kernel
theorem dX12_isWise_57 : decode cX12_isWise 57 = .ok (.aload_n 0, 1) := by decide +kernel
theorem dX12_isWise_58 : decode cX12_isWise 58 = .ok (.getfield 293, 3) := by decide +kernel
theorem dX12_isWise_61 : decode cX12_isWise 61 = .ok (.isub, 1) := by decide +kernel
theorem dX12_isWise_62 : decode cX12_isWise 62 = .ok (.imul, 1) := by decide +kernel
theorem dX12_isWise_63 : decode cX12_isWise 63 = .ok (.aload_n 0, 1) := by decide +kernel
theorem dX12_isWise_64 : decode cX12_isWise 64 = .ok (.getfield 299, 3) := by decide +kernel
theorem dX12_isWise_67 : decode cX12_isWise 67 = .ok (.iadd, 1) := by decide +kernel
theorem dX12_isWise_68 : decode cX12_isWise 68 = .ok (.iconst 1, 1) := by decide +kernel
theorem dX12_isWise_69 : decode cX12_isWise 69 = .ok (.isub, 1) := by decide +kernel
theorem dX12_isWise_70 : decode cX12_isWise 70 = .ok (.iaload, 1) := by decide +kernel
theorem dX12_isWise_71 : decode cX12_isWise 71 = .ok (.aload_n 0, 1) := by decide +kernel
theorem dX12_isWise_72 : decode cX12_isWise 72 = .ok (.getfield 63, 3) := by decide +kernel
theorem dX12_isWise_75 : decode cX12_isWise 75 = .ok (.bipush 7, 2) := by decide +kernel
theorem dX12_isWise_77 : decode cX12_isWise 77 = .ok (.aload_n 0, 1) := by decide +kernel
theorem dX12_isWise_78 : decode cX12_isWise 78 = .ok (.getfield 296, 3) := by decide +kernel
theorem dX12_isWise_81 : decode cX12_isWise 81 = .ok (.iload_n 1, 1) := by decide +kernel
theorem dX12_isWise_82 : decode cX12_isWise 82 = .ok (.isub, 1) := by decide +kernel
theorem dX12_isWise_83 : decode cX12_isWise 83 = .ok (.iconst 1, 1) := by decide +kernel
theorem dX12_isWise_84 : decode cX12_isWise 84 = .ok (.iadd, 1) := by decide +kernel
theorem dX12_isWise_85 : decode cX12_isWise 85 = .ok (.imul, 1) := by decide +kernel
theorem dX12_isWise_86 : decode cX12_isWise 86 = .ok (.aload_n 0, 1) := by decide +kernel
theorem dX12_isWise_87 : decode cX12_isWise 87 = .ok (.getfield 299, 3) := by decide +kernel
theorem dX12_isWise_90 : decode cX12_isWise 90 = .ok (.iadd, 1) := by decide +kernel
theorem dX12_isWise_91 : decode cX12_isWise 91 = .ok (.iaload, 1) := by decide +kernel
theorem dX12_isWise_92 : decode cX12_isWise 92 = .ok (.invokestatic 221, 3) := by decide +kernel
theorem dX12_isWise_95 : decode cX12_isWise 95 = .ok (.iadd, 1) := by decide +kernel
theorem dX12_isWise_96 : decode cX12_isWise 96 = .ok (.iload_n 2, 1) := by decide +kernel
theorem dX12_isWise_97 : decode cX12_isWise 97 = .ok (.if_icmp .ne 7, 3) := by decide +kernel
theorem dX12_isWise_100 : decode cX12_isWise 100 = .ok (.iconst 1, 1) := by decide +kernel
theorem dX12_isWise_101 : decode cX12_isWise 101 = .ok (.goto 4, 3) := by decide +kernel
theorem dX12_isWise_104 : decode cX12_isWise 104 = .ok (.iconst 0, 1) := by decide +kernel
theorem dX12_isWise_105 : decode cX12_isWise 105 = .ok (.ireturn, 1) := by decide +kernel
set_option maxRecDepth 20000 in
theorem ggX12_judge_X12_isShelf : GoodIn wsX12_judge wsX12_isShelf := goodIn_r _ [4, 5, 6, 3, 7] (by decide +kernel) (by decide +kernel)
set_option maxRecDepth 20000 in
theorem gX12_judge_X12_isShelf : GoodIn wsX12_judge (va_wsS RX12 308 yX12_isShelf wsX12_isShelf) := goodIn_app (goodIn_of _ (by decide +kernel)) ggX12_judge_X12_isShelf
set_option maxRecDepth 20000 in
theorem ggX12_judge_X12_rowFault : GoodIn wsX12_judge wsX12_rowFault := goodIn_r _ [11, 12, 40, 41, 42, 43, 44, 45, 46, 47, 48, 49, 50, 51, 52, 53, 54, 55, 56, 57, 58, 59, 60, 61, 62, 63, 64, 65, 66, 67, 68, 69, 70, 71, 72, 73, 74, 75, 76, 77, 78, 79, 80, 81, 82, 83, 84, 85, 86, 87, 88, 89, 90, 91, 92, 93, 94, 95, 96] (by decide +kernel) (by decide +kernel)
set_option maxRecDepth 20000 in
theorem gX12_judge_X12_rowFault : GoodIn wsX12_judge (wsV RX12 311 RX12 yX12_rowFault wsX12_rowFault) := goodIn_app (goodIn_of _ (by decide +kernel)) ggX12_judge_X12_rowFault
set_option maxRecDepth 20000 in
theorem ggX12_judge_X12_goTold : GoodIn wsX12_judge wsX12_goTold := goodIn_r _ [16, 17, 18, 19, 20, 21, 22, 23, 24, 25, 26, 27, 3, 28, 29, 30, 31, 32, 33, 34, 35, 5, 6, 7, 36, 37, 38, 39, 40, 41, 42, 43, 44, 45, 46, 47, 48, 49, 50, 51, 52, 53, 54, 55, 56, 57, 58, 59, 60, 61, 62, 63, 64, 65, 66, 67, 68, 69, 70, 71, 72, 73, 74, 75, 76, 77, 78, 79, 80, 81, 82, 83, 84, 85, 86, 87, 88, 89, 90, 91, 92, 93, 94, 95, 96] (by decide +kernel) (by decide +kernel)
set_option maxRecDepth 20000 in
theorem gX12_judge_X12_goTold : GoodIn wsX12_judge (wsV RX12 314 RX12 yX12_goTold wsX12_goTold) := goodIn_app (goodIn_of _ (by decide +kernel)) ggX12_judge_X12_goTold
theorem dX12_judge_0 : decode cX12_judge 0 = .ok (.iload_n 1, 1) := by decide +kernel
theorem dX12_judge_1 : decode cX12_judge 1 = .ok (.invokestatic 308, 3) := by decide +kernel
theorem dX12_judge_4 : decode cX12_judge 4 = .ok (.ifCond .ne 5, 3) := by decide +kernel
theorem dX12_judge_7 : decode cX12_judge 7 = .ok (.iconst (-1), 1) := by decide +kernel
theorem dX12_judge_8 : decode cX12_judge 8 = .ok (.ireturn, 1) := by decide +kernel
theorem dX12_judge_9 : decode cX12_judge 9 = .ok (.aload_n 0, 1) := by decide +kernel
theorem dX12_judge_10 : decode cX12_judge 10 = .ok (.iload_n 1, 1) := by decide +kernel
theorem dX12_judge_11 : decode cX12_judge 11 = .ok (.invokevirtual 311, 3) := by decide +kernel
theorem dX12_judge_14 : decode cX12_judge 14 = .ok (.ifCond .ge 11, 3) := by decide +kernel
theorem dX12_judge_17 : decode cX12_judge 17 = .ok (.aload_n 0, 1) := by decide +kernel
theorem dX12_judge_18 : decode cX12_judge 18 = .ok (.iload_n 1, 1) := by decide +kernel
theorem dX12_judge_19 : decode cX12_judge 19 = .ok (.invokevirtual 311, 3) := by decide +kernel
theorem dX12_judge_22 : decode cX12_judge 22 = .ok (.goto 8, 3) := by decide +kernel
theorem dX12_judge_25 : decode cX12_judge 25 = .ok (.aload_n 0, 1) := by decide +kernel
theorem dX12_judge_26 : decode cX12_judge 26 = .ok (.iload_n 1, 1) := by decide +kernel
theorem dX12_judge_27 : decode cX12_judge 27 = .ok (.invokevirtual 314, 3) := by decide +kernel
theorem dX12_judge_30 : decode cX12_judge 30 = .ok (.ireturn, 1) := by decide +kernel
set_option maxRecDepth 20000 in
theorem ggX12_left_X12_isShelf : GoodIn wsX12_left wsX12_isShelf := goodIn_r _ [7, 8, 9, 6, 10] (by decide +kernel) (by decide +kernel)
set_option maxRecDepth 20000 in
theorem gX12_left_X12_isShelf : GoodIn wsX12_left (va_wsS RX12 308 yX12_isShelf wsX12_isShelf) := goodIn_app (goodIn_of _ (by decide +kernel)) ggX12_left_X12_isShelf
set_option maxRecDepth 20000 in
theorem ggX12_left_X12_in : GoodIn wsX12_left wsX12_in := goodIn_r _ [10] (by decide +kernel) (by decide +kernel)
set_option maxRecDepth 20000 in
theorem gX12_left_X12_in : GoodIn wsX12_left (va_wsS RX12 132 yX12_in wsX12_in) := goodIn_app (goodIn_of _ (by decide +kernel)) ggX12_left_X12_in
set_option maxRecDepth 20000 in
theorem ggX12_left_X12_rowFault : GoodIn wsX12_left wsX12_rowFault := goodIn_r _ [14, 15, 40, 41, 42, 43, 44, 45, 46, 47, 48, 49, 50, 51, 52, 53, 54, 55, 56, 57, 58, 59, 60, 61, 62, 63, 64, 65, 66, 67, 68, 69, 70, 71, 72, 73, 74, 75, 76, 77, 78, 79, 80, 81, 82, 83, 84, 85, 86, 87, 88, 89, 90, 91, 92, 93, 94, 95, 96] (by decide +kernel) (by decide +kernel)
set_option maxRecDepth 20000 in
theorem gX12_left_X12_rowFault : GoodIn wsX12_left (wsV RX12 311 RX12 yX12_rowFault wsX12_rowFault) := goodIn_app (goodIn_of _ (by decide +kernel)) ggX12_left_X12_rowFault
set_option maxRecDepth 20000 in
theorem ggX12_left_X12_goTold : GoodIn wsX12_left wsX12_goTold := goodIn_r _ [19, 1, 20, 2, 21, 3, 22, 23, 24, 25, 26, 27, 6, 28, 29, 30, 31, 32, 33, 34, 35, 8, 9, 10, 36, 37, 38, 39, 40, 41, 42, 43, 44, 45, 46, 47, 48, 49, 50, 51, 52, 53, 54, 55, 56, 57, 58, 59, 60, 61, 62, 63, 64, 65, 66, 67, 68, 69, 70, 71, 72, 73, 74, 75, 76, 77, 78, 79, 80, 81, 82, 83, 84, 85, 86, 87, 88, 89, 90, 91, 92, 93, 94, 95, 96] (by decide +kernel) (by decide +kernel)
set_option maxRecDepth 20000 in
theorem gX12_left_X12_goTold : GoodIn wsX12_left (wsV RX12 314 RX12 yX12_goTold wsX12_goTold) := goodIn_app (goodIn_of _ (by decide +kernel)) ggX12_left_X12_goTold
theorem dX12_left_0 : decode cX12_left 0 = .ok (.iload_n 1, 1) := by decide +kernel
theorem dX12_left_1 : decode cX12_left 1 = .ok (.invokestatic 308, 3) := by decide +kernel
theorem dX12_left_4 : decode cX12_left 4 = .ok (.ifCond .eq 12, 3) := by decide +kernel
theorem dX12_left_7 : decode cX12_left 7 = .ok (.iload_n 2, 1) := by decide +kernel
theorem dX12_left_8 : decode cX12_left 8 = .ok (.iconst 0, 1) := by decide +kernel
theorem dX12_left_9 : decode cX12_left 9 = .ok (.iconst 2, 1) := by decide +kernel
theorem dX12_left_10 : decode cX12_left 10 = .ok (.invokestatic 132, 3) := by decide +kernel
theorem dX12_left_13 : decode cX12_left 13 = .ok (.ifCond .ne 5, 3) := by decide +kernel
theorem dX12_left_16 : decode cX12_left 16 = .ok (.iconst (-1), 1) := by decide +kernel
theorem dX12_left_17 : decode cX12_left 17 = .ok (.ireturn, 1) := by decide +kernel
theorem dX12_left_18 : decode cX12_left 18 = .ok (.aload_n 0, 1) := by decide +kernel
theorem dX12_left_19 : decode cX12_left 19 = .ok (.iload_n 1, 1) := by decide +kernel
theorem dX12_left_20 : decode cX12_left 20 = .ok (.invokevirtual 311, 3) := by decide +kernel
theorem dX12_left_23 : decode cX12_left 23 = .ok (.ifCond .ge 9, 3) := by decide +kernel
theorem dX12_left_26 : decode cX12_left 26 = .ok (.aload_n 0, 1) := by decide +kernel
theorem dX12_left_27 : decode cX12_left 27 = .ok (.iload_n 1, 1) := by decide +kernel
theorem dX12_left_28 : decode cX12_left 28 = .ok (.invokevirtual 311, 3) := by decide +kernel
theorem dX12_left_31 : decode cX12_left 31 = .ok (.ireturn, 1) := by decide +kernel
theorem dX12_left_32 : decode cX12_left 32 = .ok (.aload_n 0, 1) := by decide +kernel
theorem dX12_left_33 : decode cX12_left 33 = .ok (.iload_n 1, 1) := by decide +kernel
theorem dX12_left_34 : decode cX12_left 34 = .ok (.invokevirtual 314, 3) := by decide +kernel
theorem dX12_left_37 : decode cX12_left 37 = .ok (.ifCond .lt 6, 3) := by decide +kernel
theorem dX12_left_40 : decode cX12_left 40 = .ok (.bipush (-5), 2) := by decide +kernel
theorem dX12_left_42 : decode cX12_left 42 = .ok (.ireturn, 1) := by decide +kernel
theorem dX12_left_43 : decode cX12_left 43 = .ok (.iload_n 2, 1) := by decide +kernel
theorem dX12_left_44 : decode cX12_left 44 = .ok (.ifCond .ne 10, 3) := by decide +kernel
theorem dX12_left_47 : decode cX12_left 47 = .ok (.aload_n 0, 1) := by decide +kernel
theorem dX12_left_48 : decode cX12_left 48 = .ok (.getfield 293, 3) := by decide +kernel
theorem dX12_left_51 : decode cX12_left 51 = .ok (.goto 19, 3) := by decide +kernel
theorem dX12_left_54 : decode cX12_left 54 = .ok (.iload_n 2, 1) := by decide +kernel
theorem dX12_left_55 : decode cX12_left 55 = .ok (.iconst 1, 1) := by decide +kernel
theorem dX12_left_56 : decode cX12_left 56 = .ok (.if_icmp .ne 10, 3) := by decide +kernel
theorem dX12_left_59 : decode cX12_left 59 = .ok (.aload_n 0, 1) := by decide +kernel
theorem dX12_left_60 : decode cX12_left 60 = .ok (.getfield 296, 3) := by decide +kernel
theorem dX12_left_63 : decode cX12_left 63 = .ok (.goto 7, 3) := by decide +kernel
theorem dX12_left_66 : decode cX12_left 66 = .ok (.aload_n 0, 1) := by decide +kernel
theorem dX12_left_67 : decode cX12_left 67 = .ok (.getfield 299, 3) := by decide +kernel
theorem dX12_left_70 : decode cX12_left 70 = .ok (.ireturn, 1) := by decide +kernel
set_option maxRecDepth 20000 in
theorem ggX12_wise_X12_isShelf : GoodIn wsX12_wise wsX12_isShelf := goodIn_r _ [5, 6, 7, 4, 8] (by decide +kernel) (by decide +kernel)
set_option maxRecDepth 20000 in
theorem gX12_wise_X12_isShelf : GoodIn wsX12_wise (va_wsS RX12 308 yX12_isShelf wsX12_isShelf) := goodIn_app (goodIn_of _ (by decide +kernel)) ggX12_wise_X12_isShelf
set_option maxRecDepth 20000 in
theorem ggX12_wise_X12_rowFault : GoodIn wsX12_wise wsX12_rowFault := goodIn_r _ [12, 13, 40, 41, 42, 43, 44, 45, 46, 47, 48, 49, 50, 51, 52, 53, 54, 55, 56, 57, 58, 59, 60, 61, 62, 63, 64, 65, 66, 67, 68, 69, 70, 71, 72, 73, 74, 75, 76, 77, 78, 79, 80, 81, 82, 83, 84, 85, 86, 87, 88, 89, 90, 91, 92, 93, 94, 95, 96] (by decide +kernel) (by decide +kernel)
set_option maxRecDepth 20000 in
theorem gX12_wise_X12_rowFault : GoodIn wsX12_wise (wsV RX12 311 RX12 yX12_rowFault wsX12_rowFault) := goodIn_app (goodIn_of _ (by decide +kernel)) ggX12_wise_X12_rowFault
set_option maxRecDepth 20000 in
theorem ggX12_wise_X12_goTold : GoodIn wsX12_wise wsX12_goTold := goodIn_r _ [17, 18, 19, 20, 21, 22, 1, 23, 24, 25, 26, 27, 4, 28, 29, 30, 31, 32, 33, 34, 35, 6, 7, 8, 36, 37, 38, 39, 40, 41, 42, 43, 44, 45, 46, 47, 48, 49, 50, 51, 52, 53, 54, 55, 56, 57, 58, 59, 60, 61, 62, 63, 64, 65, 66, 67, 68, 69, 70, 71, 72, 73, 74, 75, 76, 77, 78, 79, 80, 81, 82, 83, 84, 85, 86, 87, 88, 89, 90, 91, 92, 93, 94, 95, 96] (by decide +kernel) (by decide +kernel)
set_option maxRecDepth 20000 in
theorem gX12_wise_X12_goTold : GoodIn wsX12_wise (wsV RX12 314 RX12 yX12_goTold wsX12_goTold) := goodIn_app (goodIn_of _ (by decide +kernel)) ggX12_wise_X12_goTold
theorem dX12_wise_0 : decode cX12_wise 0 = .ok (.iload_n 1, 1) := by decide +kernel
theorem dX12_wise_1 : decode cX12_wise 1 = .ok (.invokestatic 308, 3) := by decide +kernel
theorem dX12_wise_4 : decode cX12_wise 4 = .ok (.ifCond .ne 5, 3) := by decide +kernel
theorem dX12_wise_7 : decode cX12_wise 7 = .ok (.iconst (-1), 1) := by decide +kernel
theorem dX12_wise_8 : decode cX12_wise 8 = .ok (.ireturn, 1) := by decide +kernel
theorem dX12_wise_9 : decode cX12_wise 9 = .ok (.aload_n 0, 1) := by decide +kernel
theorem dX12_wise_10 : decode cX12_wise 10 = .ok (.iload_n 1, 1) := by decide +kernel
theorem dX12_wise_11 : decode cX12_wise 11 = .ok (.invokevirtual 311, 3) := by decide +kernel
theorem dX12_wise_14 : decode cX12_wise 14 = .ok (.ifCond .ge 9, 3) := by decide +kernel
theorem dX12_wise_17 : decode cX12_wise 17 = .ok (.aload_n 0, 1) := by decide +kernel
theorem dX12_wise_18 : decode cX12_wise 18 = .ok (.iload_n 1, 1) := by decide +kernel
theorem dX12_wise_19 : decode cX12_wise 19 = .ok (.invokevirtual 311, 3) := by decide +kernel
theorem dX12_wise_22 : decode cX12_wise 22 = .ok (.ireturn, 1) := by decide +kernel
theorem dX12_wise_23 : decode cX12_wise 23 = .ok (.aload_n 0, 1) := by decide +kernel
theorem dX12_wise_24 : decode cX12_wise 24 = .ok (.iload_n 1, 1) := by decide +kernel
theorem dX12_wise_25 : decode cX12_wise 25 = .ok (.invokevirtual 314, 3) := by decide +kernel
theorem dX12_wise_28 : decode cX12_wise 28 = .ok (.ifCond .lt 8, 3) := by decide +kernel
theorem dX12_wise_31 : decode cX12_wise 31 = .ok (.bipush (-5), 2) := by decide +kernel
theorem dX12_wise_33 : decode cX12_wise 33 = .ok (.goto 7, 3) := by decide +kernel
theorem dX12_wise_36 : decode cX12_wise 36 = .ok (.aload_n 0, 1) := by decide +kernel
theorem dX12_wise_37 : decode cX12_wise 37 = .ok (.getfield 302, 3) := by decide +kernel
theorem dX12_wise_40 : decode cX12_wise 40 = .ok (.ireturn, 1) := by decide +kernel
set_option maxRecDepth 20000 in
theorem ggX12_drawHeight_X12_findWeights : GoodIn wsX12_drawHeight wsX12_findWeights := goodIn_r _ [9, 4, 10, 11, 12, 8, 13, 14, 15, 3, 16, 17, 18, 19, 20, 21, 22, 23, 24, 25, 26, 27, 28, 29, 30, 31, 32, 33, 34, 35, 36, 37, 38, 39, 40, 41, 42, 43, 44, 45, 46, 47, 48, 49, 50, 51, 52, 53, 54, 55, 56, 57, 58, 59, 60, 61, 62, 63, 64, 65, 66, 67, 68, 69, 70, 71, 72, 73, 74, 75, 76, 77, 78, 79, 80, 81, 82, 83, 84, 85, 86, 87, 88, 89, 90] (by decide +kernel) (by decide +kernel)
set_option maxRecDepth 20000 in
theorem gX12_drawHeight_X12_findWeights : GoodIn wsX12_drawHeight (wsV RX12 231 RX12 yX12_findWeights wsX12_findWeights) := goodIn_app (goodIn_of _ (by decide +kernel)) ggX12_drawHeight_X12_findWeights
theorem dX12_drawHeight_0 : decode cX12_drawHeight 0 = .ok (.aload_n 0, 1) := by decide +kernel
theorem dX12_drawHeight_1 : decode cX12_drawHeight 1 = .ok (.aload_n 0, 1) := by decide +kernel
theorem dX12_drawHeight_2 : decode cX12_drawHeight 2 = .ok (.getfield 317, 3) := by decide +kernel
theorem dX12_drawHeight_5 : decode cX12_drawHeight 5 = .ok (.ldc_w 320, 3) := by decide +kernel
theorem dX12_drawHeight_8 : decode cX12_drawHeight 8 = .ok (.imul, 1) := by decide +kernel
theorem dX12_drawHeight_9 : decode cX12_drawHeight 9 = .ok (.sipush 12345, 3) := by decide +kernel
theorem dX12_drawHeight_12 : decode cX12_drawHeight 12 = .ok (.iadd, 1) := by decide +kernel
theorem dX12_drawHeight_13 : decode cX12_drawHeight 13 = .ok (.putfield 317, 3) := by decide +kernel
theorem dX12_drawHeight_16 : decode cX12_drawHeight 16 = .ok (.aload_n 0, 1) := by decide +kernel
theorem dX12_drawHeight_17 : decode cX12_drawHeight 17 = .ok (.getfield 317, 3) := by decide +kernel
theorem dX12_drawHeight_20 : decode cX12_drawHeight 20 = .ok (.bipush 8, 2) := by decide +kernel
theorem dX12_drawHeight_22 : decode cX12_drawHeight 22 = .ok (.iushr, 1) := by decide +kernel
theorem dX12_drawHeight_23 : decode cX12_drawHeight 23 = .ok (.aload_n 0, 1) := by decide +kernel
theorem dX12_drawHeight_24 : decode cX12_drawHeight 24 = .ok (.iconst 0, 1) := by decide +kernel
theorem dX12_drawHeight_25 : decode cX12_drawHeight 25 = .ok (.aload_n 0, 1) := by decide +kernel
theorem dX12_drawHeight_26 : decode cX12_drawHeight 26 = .ok (.getfield 9, 3) := by decide +kernel
theorem dX12_drawHeight_29 : decode cX12_drawHeight 29 = .ok (.invokevirtual 231, 3) := by decide +kernel
theorem dX12_drawHeight_32 : decode cX12_drawHeight 32 = .ok (.irem, 1) := by decide +kernel
theorem dX12_drawHeight_33 : decode cX12_drawHeight 33 = .ok (.istore_n 1, 1) := by decide +kernel
theorem dX12_drawHeight_34 : decode cX12_drawHeight 34 = .ok (.iconst 0, 1) := by decide +kernel
theorem dX12_drawHeight_35 : decode cX12_drawHeight 35 = .ok (.istore_n 2, 1) := by decide +kernel
theorem dX12_drawHeight_36 : decode cX12_drawHeight 36 = .ok (.iload_n 1, 1) := by decide +kernel
theorem dX12_drawHeight_37 : decode cX12_drawHeight 37 = .ok (.aload_n 0, 1) := by decide +kernel
theorem dX12_drawHeight_38 : decode cX12_drawHeight 38 = .ok (.getfield 75, 3) := by decide +kernel
theorem dX12_drawHeight_41 : decode cX12_drawHeight 41 = .ok (.iload_n 2, 1) := by decide +kernel
theorem dX12_drawHeight_42 : decode cX12_drawHeight 42 = .ok (.iconst 1, 1) := by decide +kernel
theorem dX12_drawHeight_43 : decode cX12_drawHeight 43 = .ok (.iadd, 1) := by decide +kernel
theorem dX12_drawHeight_44 : decode cX12_drawHeight 44 = .ok (.iaload, 1) := by decide +kernel
theorem dX12_drawHeight_45 : decode cX12_drawHeight 45 = .ok (.if_icmp .lt 9, 3) := by decide +kernel
theorem dX12_drawHeight_48 : decode cX12_drawHeight 48 = .ok (.iinc 2 1, 3) := by decide +kernel
theorem dX12_drawHeight_51 : decode cX12_drawHeight 51 = .ok (.goto (-15), 3) := by decide +kernel
theorem dX12_drawHeight_54 : decode cX12_drawHeight 54 = .ok (.iload_n 2, 1) := by decide +kernel
theorem dX12_drawHeight_55 : decode cX12_drawHeight 55 = .ok (.ireturn, 1) := by decide +kernel
set_option maxRecDepth 20000 in
theorem ggX12_drawn_X12_in : GoodIn wsX12_drawn wsX12_in := goodIn_r _ [8] (by decide +kernel) (by decide +kernel)
set_option maxRecDepth 20000 in
theorem gX12_drawn_X12_in : GoodIn wsX12_drawn (va_wsS RX12 132 yX12_in wsX12_in) := goodIn_app (goodIn_of _ (by decide +kernel)) ggX12_drawn_X12_in
set_option maxRecDepth 20000 in
theorem ggX12_drawn_X12_drawHeight : GoodIn wsX12_drawn wsX12_drawHeight := goodIn_r _ [12, 2, 13, 14, 15, 16, 17, 18, 7, 19, 20, 21, 22, 23, 24, 25, 1, 26, 27, 28, 29, 30, 31, 32, 33, 34, 35, 36, 37, 38, 39, 40, 41, 42, 77, 78, 79, 80, 81, 82, 83, 84, 85, 86, 87, 88, 89, 90, 91, 92, 93, 94, 95, 96, 97, 98, 99, 100, 101, 102, 103, 104, 105, 106, 107, 108, 109, 110, 111, 112, 113, 114, 115, 116, 117, 118, 119, 120, 121, 122, 123, 124, 125, 126, 127, 128, 129, 130, 131, 132, 133] (by decide +kernel) (by decide +kernel)
set_option maxRecDepth 20000 in
theorem gX12_drawn_X12_drawHeight : GoodIn wsX12_drawn (wsV RX12 321 RX12 yX12_drawHeight wsX12_drawHeight) := goodIn_app (goodIn_of _ (by decide +kernel)) ggX12_drawn_X12_drawHeight
set_option maxRecDepth 20000 in
theorem ggX12_drawn_X12_goRule : GoodIn wsX12_drawn wsX12_goRule := goodIn_r _ [46, 14, 3, 4, 47, 1, 48, 49, 50, 7, 51, 52, 53, 54, 55, 56, 57, 58, 59, 60, 61, 62, 63, 64, 65, 66, 67, 68, 69, 16, 17, 18, 19, 15, 20, 21, 22, 23, 24, 25, 26, 27, 28, 29, 30, 31, 32, 33, 34, 35, 36, 37, 38, 39, 40, 41, 42, 70, 71, 72, 73, 74, 75, 76, 77, 78, 79, 80, 81, 82, 83, 84, 85, 86, 87, 88, 89, 90, 91, 92, 93, 94, 95, 96, 97, 98, 99, 100, 101, 102, 103, 104, 105, 106, 107, 108, 109, 110, 111, 112, 113, 114, 115, 116, 117, 118, 119, 120, 121, 122, 123, 124, 125, 126, 127, 128, 129, 130, 131, 132, 133] (by decide +kernel) (by decide +kernel)
set_option maxRecDepth 20000 in
theorem gX12_drawn_X12_goRule : GoodIn wsX12_drawn (wsV RX12 286 RX12 yX12_goRule wsX12_goRule) := goodIn_app (goodIn_of _ (by decide +kernel)) ggX12_drawn_X12_goRule
theorem dX12_drawn_0 : decode cX12_drawn 0 = .ok (.iload_n 2, 1) := by decide +kernel
theorem dX12_drawn_1 : decode cX12_drawn 1 = .ok (.ifCond .lt 33, 3) := by decide +kernel
theorem dX12_drawn_4 : decode cX12_drawn 4 = .ok (.iload_n 2, 1) := by decide +kernel
theorem dX12_drawn_5 : decode cX12_drawn 5 = .ok (.bipush 100, 2) := by decide +kernel
theorem dX12_drawn_7 : decode cX12_drawn 7 = .ok (.idiv, 1) := by decide +kernel
theorem dX12_drawn_8 : decode cX12_drawn 8 = .ok (.iconst 1, 1) := by decide +kernel
theorem dX12_drawn_9 : decode cX12_drawn 9 = .ok (.if_icmp .gt 25, 3) := by decide +kernel
theorem dX12_drawn_12 : decode cX12_drawn 12 = .ok (.iload_n 2, 1) := by decide +kernel
theorem dX12_drawn_13 : decode cX12_drawn 13 = .ok (.bipush 100, 2) := by decide +kernel
theorem dX12_drawn_15 : decode cX12_drawn 15 = .ok (.irem, 1) := by decide +kernel
theorem dX12_drawn_16 : decode cX12_drawn 16 = .ok (.iconst 1, 1) := by decide +kernel
theorem dX12_drawn_17 : decode cX12_drawn 17 = .ok (.bipush 60, 2) := by decide +kernel
theorem dX12_drawn_19 : decode cX12_drawn 19 = .ok (.invokestatic 132, 3) := by decide +kernel
theorem dX12_drawn_22 : decode cX12_drawn 22 = .ok (.ifCond .eq 12, 3) := by decide +kernel
theorem dX12_drawn_25 : decode cX12_drawn 25 = .ok (.iload_n 3, 1) := by decide +kernel
theorem dX12_drawn_26 : decode cX12_drawn 26 = .ok (.iconst 0, 1) := by decide +kernel
theorem dX12_drawn_27 : decode cX12_drawn 27 = .ok (.iconst 1, 1) := by decide +kernel
theorem dX12_drawn_28 : decode cX12_drawn 28 = .ok (.invokestatic 132, 3) := by decide +kernel
theorem dX12_drawn_31 : decode cX12_drawn 31 = .ok (.ifCond .ne 5, 3) := by decide +kernel
theorem dX12_drawn_34 : decode cX12_drawn 34 = .ok (.iconst (-1), 1) := by decide +kernel
theorem dX12_drawn_35 : decode cX12_drawn 35 = .ok (.ireturn, 1) := by decide +kernel
theorem dX12_drawn_36 : decode cX12_drawn 36 = .ok (.aload_n 0, 1) := by decide +kernel
theorem dX12_drawn_37 : decode cX12_drawn 37 = .ok (.getfield 15, 3) := by decide +kernel
theorem dX12_drawn_40 : decode cX12_drawn 40 = .ok (.ifCond .ne 6, 3) := by decide +kernel
theorem dX12_drawn_43 : decode cX12_drawn 43 = .ok (.bipush (-2), 2) := by decide +kernel
theorem dX12_drawn_45 : decode cX12_drawn 45 = .ok (.ireturn, 1) := by decide +kernel
theorem dX12_drawn_46 : decode cX12_drawn 46 = .ok (.aload_n 0, 1) := by decide +kernel
theorem dX12_drawn_47 : decode cX12_drawn 47 = .ok (.iload_n 1, 1) := by decide +kernel
theorem dX12_drawn_48 : decode cX12_drawn 48 = .ok (.putfield 317, 3) := by decide +kernel
theorem dX12_drawn_51 : decode cX12_drawn 51 = .ok (.iconst 0, 1) := by decide +kernel
theorem dX12_drawn_52 : decode cX12_drawn 52 = .ok (.istore 4, 2) := by decide +kernel
theorem dX12_drawn_54 : decode cX12_drawn 54 = .ok (.iconst 0, 1) := by decide +kernel
theorem dX12_drawn_55 : decode cX12_drawn 55 = .ok (.istore 5, 2) := by decide +kernel
theorem dX12_drawn_57 : decode cX12_drawn 57 = .ok (.iload 5, 2) := by decide +kernel
theorem dX12_drawn_59 : decode cX12_drawn 59 = .ok (.iload_n 2, 1) := by decide +kernel
theorem dX12_drawn_60 : decode cX12_drawn 60 = .ok (.bipush 100, 2) := by decide +kernel
theorem dX12_drawn_62 : decode cX12_drawn 62 = .ok (.irem, 1) := by decide +kernel
theorem dX12_drawn_63 : decode cX12_drawn 63 = .ok (.if_icmp .ge 42, 3) := by decide +kernel
theorem dX12_drawn_66 : decode cX12_drawn 66 = .ok (.aload_n 0, 1) := by decide +kernel
theorem dX12_drawn_67 : decode cX12_drawn 67 = .ok (.iload_n 2, 1) := by decide +kernel
theorem dX12_drawn_68 : decode cX12_drawn 68 = .ok (.bipush 100, 2) := by decide +kernel
theorem dX12_drawn_70 : decode cX12_drawn 70 = .ok (.idiv, 1) := by decide +kernel
theorem dX12_drawn_71 : decode cX12_drawn 71 = .ok (.aload_n 0, 1) := by decide +kernel
theorem dX12_drawn_72 : decode cX12_drawn 72 = .ok (.invokevirtual 321, 3) := by decide +kernel
theorem dX12_drawn_75 : decode cX12_drawn 75 = .ok (.iconst (-1), 1) := by decide +kernel
theorem dX12_drawn_76 : decode cX12_drawn 76 = .ok (.invokevirtual 286, 3) := by decide +kernel
theorem dX12_drawn_79 : decode cX12_drawn 79 = .ok (.iload 4, 2) := by decide +kernel
theorem dX12_drawn_81 : decode cX12_drawn 81 = .ok (.iload_n 3, 1) := by decide +kernel
theorem dX12_drawn_82 : decode cX12_drawn 82 = .ok (.ifCond .ne 10, 3) := by decide +kernel
theorem dX12_drawn_85 : decode cX12_drawn 85 = .ok (.aload_n 0, 1) := by decide +kernel
theorem dX12_drawn_86 : decode cX12_drawn 86 = .ok (.getfield 274, 3) := by decide +kernel
theorem dX12_drawn_89 : decode cX12_drawn 89 = .ok (.goto 7, 3) := by decide +kernel
theorem dX12_drawn_92 : decode cX12_drawn 92 = .ok (.aload_n 0, 1) := by decide +kernel
theorem dX12_drawn_93 : decode cX12_drawn 93 = .ok (.getfield 277, 3) := by decide +kernel
theorem dX12_drawn_96 : decode cX12_drawn 96 = .ok (.iadd, 1) := by decide +kernel
theorem dX12_drawn_97 : decode cX12_drawn 97 = .ok (.istore 4, 2) := by decide +kernel
theorem dX12_drawn_99 : decode cX12_drawn 99 = .ok (.iinc 5 1, 3) := by decide +kernel
theorem dX12_drawn_102 : decode cX12_drawn 102 = .ok (.goto (-45), 3) := by decide +kernel
theorem dX12_drawn_105 : decode cX12_drawn 105 = .ok (.iload 4, 2) := by decide +kernel
theorem dX12_drawn_107 : decode cX12_drawn 107 = .ok (.ireturn, 1) := by decide +kernel
set_option maxRecDepth 20000 in
theorem ggX12_hide_X12_drawHeight : GoodIn wsX12_hide wsX12_drawHeight := goodIn_r _ [9, 1, 10, 3, 11, 12, 13, 14, 8, 15, 16, 17, 18, 19, 20, 21, 4, 22, 23, 24, 25, 26, 27, 28, 29, 30, 31, 32, 33, 34, 35, 36, 37, 38, 39, 40, 41, 42, 43, 44, 45, 46, 47, 48, 49, 50, 51, 52, 53, 54, 55, 56, 57, 58, 59, 60, 61, 62, 63, 64, 65, 66, 67, 68, 69, 70, 71, 72, 73, 74, 75, 76, 77, 78, 79, 80, 81, 82, 83, 84, 85, 86, 87, 88, 89, 90, 91, 92, 93, 94, 95] (by decide +kernel) (by decide +kernel)
set_option maxRecDepth 20000 in
theorem gX12_hide_X12_drawHeight : GoodIn wsX12_hide (wsV RX12 321 RX12 yX12_drawHeight wsX12_drawHeight) := goodIn_app (goodIn_of _ (by decide +kernel)) ggX12_hide_X12_drawHeight
theorem dX12_hide_0 : decode cX12_hide 0 = .ok (.aload_n 0, 1) := by decide +kernel
theorem dX12_hide_1 : decode cX12_hide 1 = .ok (.iload_n 1, 1) := by decide +kernel
theorem dX12_hide_2 : decode cX12_hide 2 = .ok (.putfield 317, 3) := by decide +kernel
theorem dX12_hide_5 : decode cX12_hide 5 = .ok (.aload_n 0, 1) := by decide +kernel
theorem dX12_hide_6 : decode cX12_hide 6 = .ok (.getfield 90, 3) := by decide +kernel
theorem dX12_hide_9 : decode cX12_hide 9 = .ok (.iconst 0, 1) := by decide +kernel
theorem dX12_hide_10 : decode cX12_hide 10 = .ok (.aload_n 0, 1) := by decide +kernel
theorem dX12_hide_11 : decode cX12_hide 11 = .ok (.invokevirtual 321, 3) := by decide +kernel
theorem dX12_hide_14 : decode cX12_hide 14 = .ok (.iastore, 1) := by decide +kernel
theorem dX12_hide_15 : decode cX12_hide 15 = .ok (.aload_n 0, 1) := by decide +kernel
theorem dX12_hide_16 : decode cX12_hide 16 = .ok (.getfield 90, 3) := by decide +kernel
theorem dX12_hide_19 : decode cX12_hide 19 = .ok (.iconst 1, 1) := by decide +kernel
theorem dX12_hide_20 : decode cX12_hide 20 = .ok (.aload_n 0, 1) := by decide +kernel
theorem dX12_hide_21 : decode cX12_hide 21 = .ok (.getfield 9, 3) := by decide +kernel
theorem dX12_hide_24 : decode cX12_hide 24 = .ok (.iastore, 1) := by decide +kernel
theorem dX12_hide_25 : decode cX12_hide 25 = .ok (.aload_n 0, 1) := by decide +kernel
theorem dX12_hide_26 : decode cX12_hide 26 = .ok (.getfield 90, 3) := by decide +kernel
theorem dX12_hide_29 : decode cX12_hide 29 = .ok (.iconst 2, 1) := by decide +kernel
theorem dX12_hide_30 : decode cX12_hide 30 = .ok (.aload_n 0, 1) := by decide +kernel
theorem dX12_hide_31 : decode cX12_hide 31 = .ok (.getfield 15, 3) := by decide +kernel
theorem dX12_hide_34 : decode cX12_hide 34 = .ok (.iastore, 1) := by decide +kernel
theorem dX12_hide_35 : decode cX12_hide 35 = .ok (.aload_n 0, 1) := by decide +kernel
theorem dX12_hide_36 : decode cX12_hide 36 = .ok (.getfield 90, 3) := by decide +kernel
theorem dX12_hide_39 : decode cX12_hide 39 = .ok (.iconst 3, 1) := by decide +kernel
theorem dX12_hide_40 : decode cX12_hide 40 = .ok (.iconst 0, 1) := by decide +kernel
theorem dX12_hide_41 : decode cX12_hide 41 = .ok (.iastore, 1) := by decide +kernel
theorem dX12_hide_42 : decode cX12_hide 42 = .ok (.aload_n 0, 1) := by decide +kernel
theorem dX12_hide_43 : decode cX12_hide 43 = .ok (.getfield 90, 3) := by decide +kernel
theorem dX12_hide_46 : decode cX12_hide 46 = .ok (.iconst 4, 1) := by decide +kernel
theorem dX12_hide_47 : decode cX12_hide 47 = .ok (.iconst 0, 1) := by decide +kernel
theorem dX12_hide_48 : decode cX12_hide 48 = .ok (.iastore, 1) := by decide +kernel
theorem dX12_hide_49 : decode cX12_hide 49 = .ok (.aload_n 0, 1) := by decide +kernel
theorem dX12_hide_50 : decode cX12_hide 50 = .ok (.getfield 90, 3) := by decide +kernel
theorem dX12_hide_53 : decode cX12_hide 53 = .ok (.iconst 5, 1) := by decide +kernel
theorem dX12_hide_54 : decode cX12_hide 54 = .ok (.iconst 0, 1) := by decide +kernel
theorem dX12_hide_55 : decode cX12_hide 55 = .ok (.iastore, 1) := by decide +kernel
theorem dX12_hide_56 : decode cX12_hide 56 = .ok (.aload_n 0, 1) := by decide +kernel
theorem dX12_hide_57 : decode cX12_hide 57 = .ok (.getfield 90, 3) := by decide +kernel
theorem dX12_hide_60 : decode cX12_hide 60 = .ok (.bipush 6, 2) := by decide +kernel
theorem dX12_hide_62 : decode cX12_hide 62 = .ok (.aload_n 0, 1) := by decide +kernel
theorem dX12_hide_63 : decode cX12_hide 63 = .ok (.getfield 9, 3) := by decide +kernel
theorem dX12_hide_66 : decode cX12_hide 66 = .ok (.iastore, 1) := by decide +kernel
theorem dX12_hide_67 : decode cX12_hide 67 = .ok (.aload_n 0, 1) := by decide +kernel
theorem dX12_hide_68 : decode cX12_hide 68 = .ok (.getfield 9, 3) := by decide +kernel
theorem dX12_hide_71 : decode cX12_hide 71 = .ok (.ireturn, 1) := by decide +kernel
theorem dX12_stepsNow_0 : decode cX12_stepsNow 0 = .ok (.aload_n 0, 1) := by decide +kernel
theorem dX12_stepsNow_1 : decode cX12_stepsNow 1 = .ok (.getfield 90, 3) := by decide +kernel
theorem dX12_stepsNow_4 : decode cX12_stepsNow 4 = .ok (.iconst 0, 1) := by decide +kernel
theorem dX12_stepsNow_5 : decode cX12_stepsNow 5 = .ok (.iaload, 1) := by decide +kernel
theorem dX12_stepsNow_6 : decode cX12_stepsNow 6 = .ok (.ifCond .ge 10, 3) := by decide +kernel
theorem dX12_stepsNow_9 : decode cX12_stepsNow 9 = .ok (.aload_n 0, 1) := by decide +kernel
theorem dX12_stepsNow_10 : decode cX12_stepsNow 10 = .ok (.getfield 9, 3) := by decide +kernel
theorem dX12_stepsNow_13 : decode cX12_stepsNow 13 = .ok (.goto 9, 3) := by decide +kernel
theorem dX12_stepsNow_16 : decode cX12_stepsNow 16 = .ok (.aload_n 0, 1) := by decide +kernel
theorem dX12_stepsNow_17 : decode cX12_stepsNow 17 = .ok (.getfield 90, 3) := by decide +kernel
theorem dX12_stepsNow_20 : decode cX12_stepsNow 20 = .ok (.iconst 1, 1) := by decide +kernel
theorem dX12_stepsNow_21 : decode cX12_stepsNow 21 = .ok (.iaload, 1) := by decide +kernel
theorem dX12_stepsNow_22 : decode cX12_stepsNow 22 = .ok (.ireturn, 1) := by decide +kernel
theorem dX12_drops1_0 : decode cX12_drops1 0 = .ok (.aload_n 0, 1) := by decide +kernel
theorem dX12_drops1_1 : decode cX12_drops1 1 = .ok (.getfield 90, 3) := by decide +kernel
theorem dX12_drops1_4 : decode cX12_drops1 4 = .ok (.iconst 3, 1) := by decide +kernel
theorem dX12_drops1_5 : decode cX12_drops1 5 = .ok (.dup2, 1) := by decide +kernel
theorem dX12_drops1_6 : decode cX12_drops1 6 = .ok (.iaload, 1) := by decide +kernel
theorem dX12_drops1_7 : decode cX12_drops1 7 = .ok (.iconst 1, 1) := by decide +kernel
theorem dX12_drops1_8 : decode cX12_drops1 8 = .ok (.iadd, 1) := by decide +kernel
theorem dX12_drops1_9 : decode cX12_drops1 9 = .ok (.iastore, 1) := by decide +kernel
theorem dX12_drops1_10 : decode cX12_drops1 10 = .ok (.iload_n 1, 1) := by decide +kernel
theorem dX12_drops1_11 : decode cX12_drops1 11 = .ok (.aload_n 0, 1) := by decide +kernel
theorem dX12_drops1_12 : decode cX12_drops1 12 = .ok (.getfield 90, 3) := by decide +kernel
theorem dX12_drops1_15 : decode cX12_drops1 15 = .ok (.iconst 0, 1) := by decide +kernel
theorem dX12_drops1_16 : decode cX12_drops1 16 = .ok (.iaload, 1) := by decide +kernel
theorem dX12_drops1_17 : decode cX12_drops1 17 = .ok (.if_icmp .gt 22, 3) := by decide +kernel
theorem dX12_drops1_20 : decode cX12_drops1 20 = .ok (.iload_n 1, 1) := by decide +kernel
theorem dX12_drops1_21 : decode cX12_drops1 21 = .ok (.aload_n 0, 1) := by decide +kernel
theorem dX12_drops1_22 : decode cX12_drops1 22 = .ok (.getfield 90, 3) := by decide +kernel
theorem dX12_drops1_25 : decode cX12_drops1 25 = .ok (.iconst 5, 1) := by decide +kernel
theorem dX12_drops1_26 : decode cX12_drops1 26 = .ok (.iaload, 1) := by decide +kernel
theorem dX12_drops1_27 : decode cX12_drops1 27 = .ok (.if_icmp .le 10, 3) := by decide +kernel
theorem dX12_drops1_30 : decode cX12_drops1 30 = .ok (.aload_n 0, 1) := by decide +kernel
theorem dX12_drops1_31 : decode cX12_drops1 31 = .ok (.getfield 90, 3) := by decide +kernel
theorem dX12_drops1_34 : decode cX12_drops1 34 = .ok (.iconst 5, 1) := by decide +kernel
theorem dX12_drops1_35 : decode cX12_drops1 35 = .ok (.iload_n 1, 1) := by decide +kernel
theorem dX12_drops1_36 : decode cX12_drops1 36 = .ok (.iastore, 1) := by decide +kernel
theorem dX12_drops1_37 : decode cX12_drops1 37 = .ok (.iconst 0, 1) := by decide +kernel
theorem dX12_drops1_38 : decode cX12_drops1 38 = .ok (.ireturn, 1) := by decide +kernel
theorem dX12_drops1_39 : decode cX12_drops1 39 = .ok (.aload_n 0, 1) := by decide +kernel
theorem dX12_drops1_40 : decode cX12_drops1 40 = .ok (.getfield 90, 3) := by decide +kernel
theorem dX12_drops1_43 : decode cX12_drops1 43 = .ok (.iconst 2, 1) := by decide +kernel
theorem dX12_drops1_44 : decode cX12_drops1 44 = .ok (.dup2, 1) := by decide +kernel
theorem dX12_drops1_45 : decode cX12_drops1 45 = .ok (.iaload, 1) := by decide +kernel
theorem dX12_drops1_46 : decode cX12_drops1 46 = .ok (.iconst 1, 1) := by decide +kernel
theorem dX12_drops1_47 : decode cX12_drops1 47 = .ok (.isub, 1) := by decide +kernel
theorem dX12_drops1_48 : decode cX12_drops1 48 = .ok (.iastore, 1) := by decide +kernel
theorem dX12_drops1_49 : decode cX12_drops1 49 = .ok (.aload_n 0, 1) := by decide +kernel
theorem dX12_drops1_50 : decode cX12_drops1 50 = .ok (.getfield 90, 3) := by decide +kernel
theorem dX12_drops1_53 : decode cX12_drops1 53 = .ok (.iconst 4, 1) := by decide +kernel
theorem dX12_drops1_54 : decode cX12_drops1 54 = .ok (.dup2, 1) := by decide +kernel
theorem dX12_drops1_55 : decode cX12_drops1 55 = .ok (.iaload, 1) := by decide +kernel
theorem dX12_drops1_56 : decode cX12_drops1 56 = .ok (.iconst 1, 1) := by decide +kernel
theorem dX12_drops1_57 : decode cX12_drops1 57 = .ok (.iadd, 1) := by decide +kernel
theorem dX12_drops1_58 : decode cX12_drops1 58 = .ok (.iastore, 1) := by decide +kernel
theorem dX12_drops1_59 : decode cX12_drops1 59 = .ok (.iload_n 1, 1) := by decide +kernel
theorem dX12_drops1_60 : decode cX12_drops1 60 = .ok (.iconst 1, 1) := by decide +kernel
theorem dX12_drops1_61 : decode cX12_drops1 61 = .ok (.isub, 1) := by decide +kernel
theorem dX12_drops1_62 : decode cX12_drops1 62 = .ok (.aload_n 0, 1) := by decide +kernel
theorem dX12_drops1_63 : decode cX12_drops1 63 = .ok (.getfield 90, 3) := by decide +kernel
theorem dX12_drops1_66 : decode cX12_drops1 66 = .ok (.bipush 6, 2) := by decide +kernel
theorem dX12_drops1_68 : decode cX12_drops1 68 = .ok (.iaload, 1) := by decide +kernel
theorem dX12_drops1_69 : decode cX12_drops1 69 = .ok (.if_icmp .ge 13, 3) := by decide +kernel
theorem dX12_drops1_72 : decode cX12_drops1 72 = .ok (.aload_n 0, 1) := by decide +kernel
theorem dX12_drops1_73 : decode cX12_drops1 73 = .ok (.getfield 90, 3) := by decide +kernel
theorem dX12_drops1_76 : decode cX12_drops1 76 = .ok (.bipush 6, 2) := by decide +kernel
theorem dX12_drops1_78 : decode cX12_drops1 78 = .ok (.iload_n 1, 1) := by decide +kernel
theorem dX12_drops1_79 : decode cX12_drops1 79 = .ok (.iconst 1, 1) := by decide +kernel
theorem dX12_drops1_80 : decode cX12_drops1 80 = .ok (.isub, 1) := by decide +kernel
theorem dX12_drops1_81 : decode cX12_drops1 81 = .ok (.iastore, 1) := by decide +kernel
theorem dX12_drops1_82 : decode cX12_drops1 82 = .ok (.iconst 1, 1) := by decide +kernel
theorem dX12_drops1_83 : decode cX12_drops1 83 = .ok (.ireturn, 1) := by decide +kernel
set_option maxRecDepth 20000 in
theorem ggX12_drop_X12_stepsNow : GoodIn wsX12_drop wsX12_stepsNow := goodIn_r _ [6, 1, 7, 15, 16, 17, 18, 19, 20, 21, 22, 23, 24, 25, 26, 27, 28, 29, 30, 31, 32, 33, 34, 35, 36, 37, 38, 39, 40, 41, 42, 43, 44, 45, 46, 47, 48, 49, 50, 51, 52, 53, 54, 55, 56, 57, 58, 59, 60, 61, 62, 63, 64, 65, 66, 67, 68, 69, 70, 71] (by decide +kernel) (by decide +kernel)
set_option maxRecDepth 20000 in
theorem gX12_drop_X12_stepsNow : GoodIn wsX12_drop (wsV RX12 324 RX12 yX12_stepsNow wsX12_stepsNow) := goodIn_app (goodIn_of _ (by decide +kernel)) ggX12_drop_X12_stepsNow
set_option maxRecDepth 20000 in
theorem ggX12_drop_X12_in : GoodIn wsX12_drop wsX12_in := goodIn_r _ [10] (by decide +kernel) (by decide +kernel)
set_option maxRecDepth 20000 in
theorem gX12_drop_X12_in : GoodIn wsX12_drop (va_wsS RX12 132 yX12_in wsX12_in) := goodIn_app (goodIn_of _ (by decide +kernel)) ggX12_drop_X12_in
set_option maxRecDepth 20000 in
theorem ggX12_drop_X12_drops1 : GoodIn wsX12_drop wsX12_drops1 := goodIn_r _ [14, 1, 15, 16, 17, 18, 19, 20, 21, 22, 23, 24, 25, 26, 27, 28, 29, 30, 31, 32, 33, 34, 35, 36, 37, 38, 39, 40, 41, 42, 43, 44, 45, 46, 47, 48, 49, 50, 51, 52, 53, 54, 55, 56, 57, 58, 59, 60, 61, 62, 63, 64, 65, 66, 67, 68, 69, 70, 71] (by decide +kernel) (by decide +kernel)
set_option maxRecDepth 20000 in
theorem gX12_drop_X12_drops1 : GoodIn wsX12_drop (wsV RX12 327 RX12 yX12_drops1 wsX12_drops1) := goodIn_app (goodIn_of _ (by decide +kernel)) ggX12_drop_X12_drops1
theorem dX12_drop_0 : decode cX12_drop 0 = .ok (.iload_n 1, 1) := by decide +kernel
theorem dX12_drop_1 : decode cX12_drop 1 = .ok (.iconst 1, 1) := by decide +kernel
theorem dX12_drop_2 : decode cX12_drop 2 = .ok (.aload_n 0, 1) := by decide +kernel
theorem dX12_drop_3 : decode cX12_drop 3 = .ok (.invokevirtual 324, 3) := by decide +kernel
theorem dX12_drop_6 : decode cX12_drop 6 = .ok (.invokestatic 132, 3) := by decide +kernel
theorem dX12_drop_9 : decode cX12_drop 9 = .ok (.ifCond .ne 5, 3) := by decide +kernel
theorem dX12_drop_12 : decode cX12_drop 12 = .ok (.iconst (-1), 1) := by decide +kernel
theorem dX12_drop_13 : decode cX12_drop 13 = .ok (.ireturn, 1) := by decide +kernel
theorem dX12_drop_14 : decode cX12_drop 14 = .ok (.aload_n 0, 1) := by decide +kernel
theorem dX12_drop_15 : decode cX12_drop 15 = .ok (.getfield 90, 3) := by decide +kernel
theorem dX12_drop_18 : decode cX12_drop 18 = .ok (.iconst 0, 1) := by decide +kernel
theorem dX12_drop_19 : decode cX12_drop 19 = .ok (.iaload, 1) := by decide +kernel
theorem dX12_drop_20 : decode cX12_drop 20 = .ok (.ifCond .lt 12, 3) := by decide +kernel
theorem dX12_drop_23 : decode cX12_drop 23 = .ok (.aload_n 0, 1) := by decide +kernel
theorem dX12_drop_24 : decode cX12_drop 24 = .ok (.getfield 90, 3) := by decide +kernel
theorem dX12_drop_27 : decode cX12_drop 27 = .ok (.iconst 2, 1) := by decide +kernel
theorem dX12_drop_28 : decode cX12_drop 28 = .ok (.iaload, 1) := by decide +kernel
theorem dX12_drop_29 : decode cX12_drop 29 = .ok (.ifCond .ne 8, 3) := by decide +kernel
theorem dX12_drop_32 : decode cX12_drop 32 = .ok (.bipush (-5), 2) := by decide +kernel
theorem dX12_drop_34 : decode cX12_drop 34 = .ok (.goto 8, 3) := by decide +kernel
theorem dX12_drop_37 : decode cX12_drop 37 = .ok (.aload_n 0, 1) := by decide +kernel
theorem dX12_drop_38 : decode cX12_drop 38 = .ok (.iload_n 1, 1) := by decide +kernel
theorem dX12_drop_39 : decode cX12_drop 39 = .ok (.invokevirtual 327, 3) := by decide +kernel
theorem dX12_drop_42 : decode cX12_drop 42 = .ok (.ireturn, 1) := by decide +kernel
set_option maxRecDepth 20000 in
theorem ggX12_drops_X12_isShelf : GoodIn wsX12_drops wsX12_isShelf := goodIn_r _ [8, 9, 10, 7, 11] (by decide +kernel) (by decide +kernel)
set_option maxRecDepth 20000 in
theorem gX12_drops_X12_isShelf : GoodIn wsX12_drops (va_wsS RX12 308 yX12_isShelf wsX12_isShelf) := goodIn_app (goodIn_of _ (by decide +kernel)) ggX12_drops_X12_isShelf
set_option maxRecDepth 20000 in
theorem ggX12_drops_X12_in : GoodIn wsX12_drops wsX12_in := goodIn_r _ [11] (by decide +kernel) (by decide +kernel)
set_option maxRecDepth 20000 in
theorem gX12_drops_X12_in : GoodIn wsX12_drops (va_wsS RX12 132 yX12_in wsX12_in) := goodIn_app (goodIn_of _ (by decide +kernel)) ggX12_drops_X12_in
set_option maxRecDepth 20000 in
theorem ggX12_drops_X12_drops1 : GoodIn wsX12_drops wsX12_drops1 := goodIn_r _ [15, 2, 16, 17, 18, 19, 20, 21, 22, 23, 24, 25, 26, 27, 28, 29, 30, 31, 32, 33, 34, 35, 36, 37, 38, 39, 40, 41, 42, 43, 44, 45, 46, 47, 48, 49, 50, 51, 52, 53, 54, 55, 56, 57, 58, 59, 60, 61, 62, 63, 64, 65, 66, 67, 68, 69, 70, 71, 72] (by decide +kernel) (by decide +kernel)
set_option maxRecDepth 20000 in
theorem gX12_drops_X12_drops1 : GoodIn wsX12_drops (wsV RX12 327 RX12 yX12_drops1 wsX12_drops1) := goodIn_app (goodIn_of _ (by decide +kernel)) ggX12_drops_X12_drops1
theorem dX12_drops_0 : decode cX12_drops 0 = .ok (.iload_n 1, 1) := by decide +kernel
theorem dX12_drops_1 : decode cX12_drops 1 = .ok (.invokestatic 308, 3) := by decide +kernel
theorem dX12_drops_4 : decode cX12_drops 4 = .ok (.ifCond .eq 13, 3) := by decide +kernel
theorem dX12_drops_7 : decode cX12_drops 7 = .ok (.iload_n 3, 1) := by decide +kernel
theorem dX12_drops_8 : decode cX12_drops 8 = .ok (.iconst 1, 1) := by decide +kernel
theorem dX12_drops_9 : decode cX12_drops 9 = .ok (.bipush 20, 2) := by decide +kernel
theorem dX12_drops_11 : decode cX12_drops 11 = .ok (.invokestatic 132, 3) := by decide +kernel
theorem dX12_drops_14 : decode cX12_drops 14 = .ok (.ifCond .ne 5, 3) := by decide +kernel
theorem dX12_drops_17 : decode cX12_drops 17 = .ok (.iconst (-1), 1) := by decide +kernel
theorem dX12_drops_18 : decode cX12_drops 18 = .ok (.ireturn, 1) := by decide +kernel
theorem dX12_drops_19 : decode cX12_drops 19 = .ok (.aload_n 0, 1) := by decide +kernel
theorem dX12_drops_20 : decode cX12_drops 20 = .ok (.getfield 102, 3) := by decide +kernel
theorem dX12_drops_23 : decode cX12_drops 23 = .ok (.iload_n 1, 1) := by decide +kernel
theorem dX12_drops_24 : decode cX12_drops 24 = .ok (.iaload, 1) := by decide +kernel
theorem dX12_drops_25 : decode cX12_drops 25 = .ok (.iconst (-1), 1) := by decide +kernel
theorem dX12_drops_26 : decode cX12_drops 26 = .ok (.if_icmp .eq 17, 3) := by decide +kernel
theorem dX12_drops_29 : decode cX12_drops 29 = .ok (.aload_n 0, 1) := by decide +kernel
theorem dX12_drops_30 : decode cX12_drops 30 = .ok (.getfield 102, 3) := by decide +kernel
theorem dX12_drops_33 : decode cX12_drops 33 = .ok (.iload_n 1, 1) := by decide +kernel
theorem dX12_drops_34 : decode cX12_drops 34 = .ok (.iaload, 1) := by decide +kernel
theorem dX12_drops_35 : decode cX12_drops 35 = .ok (.bipush (-2), 2) := by decide +kernel
theorem dX12_drops_37 : decode cX12_drops 37 = .ok (.if_icmp .eq 6, 3) := by decide +kernel
theorem dX12_drops_40 : decode cX12_drops 40 = .ok (.bipush (-12), 2) := by decide +kernel
theorem dX12_drops_42 : decode cX12_drops 42 = .ok (.ireturn, 1) := by decide +kernel
theorem dX12_drops_43 : decode cX12_drops 43 = .ok (.aload_n 0, 1) := by decide +kernel
theorem dX12_drops_44 : decode cX12_drops 44 = .ok (.getfield 90, 3) := by decide +kernel
theorem dX12_drops_47 : decode cX12_drops 47 = .ok (.iconst 0, 1) := by decide +kernel
theorem dX12_drops_48 : decode cX12_drops 48 = .ok (.iaload, 1) := by decide +kernel
theorem dX12_drops_49 : decode cX12_drops 49 = .ok (.ifCond .ge 6, 3) := by decide +kernel
theorem dX12_drops_52 : decode cX12_drops 52 = .ok (.bipush (-5), 2) := by decide +kernel
theorem dX12_drops_54 : decode cX12_drops 54 = .ok (.ireturn, 1) := by decide +kernel
theorem dX12_drops_55 : decode cX12_drops 55 = .ok (.aload_n 0, 1) := by decide +kernel
theorem dX12_drops_56 : decode cX12_drops 56 = .ok (.getfield 102, 3) := by decide +kernel
theorem dX12_drops_59 : decode cX12_drops 59 = .ok (.iload_n 1, 1) := by decide +kernel
theorem dX12_drops_60 : decode cX12_drops 60 = .ok (.iaload, 1) := by decide +kernel
theorem dX12_drops_61 : decode cX12_drops 61 = .ok (.iconst (-1), 1) := by decide +kernel
theorem dX12_drops_62 : decode cX12_drops 62 = .ok (.if_icmp .ne 5, 3) := by decide +kernel
theorem dX12_drops_65 : decode cX12_drops 65 = .ok (.iconst 0, 1) := by decide +kernel
theorem dX12_drops_66 : decode cX12_drops 66 = .ok (.ireturn, 1) := by decide +kernel
theorem dX12_drops_67 : decode cX12_drops 67 = .ok (.iconst 0, 1) := by decide +kernel
theorem dX12_drops_68 : decode cX12_drops 68 = .ok (.istore 4, 2) := by decide +kernel
theorem dX12_drops_70 : decode cX12_drops 70 = .ok (.iload 4, 2) := by decide +kernel
theorem dX12_drops_72 : decode cX12_drops 72 = .ok (.iload_n 3, 1) := by decide +kernel
theorem dX12_drops_73 : decode cX12_drops 73 = .ok (.if_icmp .ge 106, 3) := by decide +kernel
theorem dX12_drops_76 : decode cX12_drops 76 = .ok (.iload_n 2, 1) := by decide +kernel
theorem dX12_drops_77 : decode cX12_drops 77 = .ok (.i2l, 1) := by decide +kernel
theorem dX12_drops_78 : decode cX12_drops 78 = .ok (.iload 4, 2) := by decide +kernel
theorem dX12_drops_80 : decode cX12_drops 80 = .ok (.i2l, 1) := by decide +kernel
theorem dX12_drops_81 : decode cX12_drops 81 = .ok (.ladd, 1) := by decide +kernel
theorem dX12_drops_82 : decode cX12_drops 82 = .ok (.lstore 5, 2) := by decide +kernel
theorem dX12_drops_84 : decode cX12_drops 84 = .ok (.lload 5, 2) := by decide +kernel
theorem dX12_drops_86 : decode cX12_drops 86 = .ok (.lconst 0, 1) := by decide +kernel
theorem dX12_drops_87 : decode cX12_drops 87 = .ok (.lcmp, 1) := by decide +kernel
theorem dX12_drops_88 : decode cX12_drops 88 = .ok (.ifCond .lt 41, 3) := by decide +kernel
theorem dX12_drops_91 : decode cX12_drops 91 = .ok (.lload 5, 2) := by decide +kernel
theorem dX12_drops_93 : decode cX12_drops 93 = .ok (.aload_n 0, 1) := by decide +kernel
theorem dX12_drops_94 : decode cX12_drops 94 = .ok (.getfield 105, 3) := by decide +kernel
theorem dX12_drops_97 : decode cX12_drops 97 = .ok (.iload_n 1, 1) := by decide +kernel
theorem dX12_drops_98 : decode cX12_drops 98 = .ok (.iaload, 1) := by decide +kernel
theorem dX12_drops_99 : decode cX12_drops 99 = .ok (.i2l, 1) := by decide +kernel
theorem dX12_drops_100 : decode cX12_drops 100 = .ok (.lcmp, 1) := by decide +kernel
theorem dX12_drops_101 : decode cX12_drops 101 = .ok (.ifCond .ge 28, 3) := by decide +kernel
theorem dX12_drops_104 : decode cX12_drops 104 = .ok (.aload_n 0, 1) := by decide +kernel
theorem dX12_drops_105 : decode cX12_drops 105 = .ok (.getfield 90, 3) := by decide +kernel
theorem dX12_drops_108 : decode cX12_drops 108 = .ok (.iconst 2, 1) := by decide +kernel
theorem dX12_drops_109 : decode cX12_drops 109 = .ok (.iaload, 1) := by decide +kernel
theorem dX12_drops_110 : decode cX12_drops 110 = .ok (.ifCond .eq 19, 3) := by decide +kernel
theorem dX12_drops_113 : decode cX12_drops 113 = .ok (.aload_n 0, 1) := by decide +kernel
theorem dX12_drops_114 : decode cX12_drops 114 = .ok (.getfield 90, 3) := by decide +kernel
theorem dX12_drops_117 : decode cX12_drops 117 = .ok (.iconst 5, 1) := by decide +kernel
theorem dX12_drops_118 : decode cX12_drops 118 = .ok (.iaload, 1) := by decide +kernel
theorem dX12_drops_119 : decode cX12_drops 119 = .ok (.aload_n 0, 1) := by decide +kernel
theorem dX12_drops_120 : decode cX12_drops 120 = .ok (.getfield 90, 3) := by decide +kernel
theorem dX12_drops_123 : decode cX12_drops 123 = .ok (.bipush 6, 2) := by decide +kernel
theorem dX12_drops_125 : decode cX12_drops 125 = .ok (.iaload, 1) := by decide +kernel
theorem dX12_drops_126 : decode cX12_drops 126 = .ok (.if_icmp .ne 6, 3) := by decide +kernel
theorem dX12_drops_129 : decode cX12_drops 129 = .ok (.iload 4, 2) := by decide +kernel
theorem dX12_drops_131 : decode cX12_drops 131 = .ok (.ireturn, 1) := by decide +kernel
theorem dX12_drops_132 : decode cX12_drops 132 = .ok (.aload_n 0, 1) := by decide +kernel
theorem dX12_drops_133 : decode cX12_drops 133 = .ok (.getfield 108, 3) := by decide +kernel
theorem dX12_drops_136 : decode cX12_drops 136 = .ok (.bipush 60, 2) := by decide +kernel
theorem dX12_drops_138 : decode cX12_drops 138 = .ok (.iload_n 1, 1) := by decide +kernel
theorem dX12_drops_139 : decode cX12_drops 139 = .ok (.imul, 1) := by decide +kernel
theorem dX12_drops_140 : decode cX12_drops 140 = .ok (.lload 5, 2) := by decide +kernel
theorem dX12_drops_142 : decode cX12_drops 142 = .ok (.l2i, 1) := by decide +kernel
theorem dX12_drops_143 : decode cX12_drops 143 = .ok (.iadd, 1) := by decide +kernel
theorem dX12_drops_144 : decode cX12_drops 144 = .ok (.laload, 1) := by decide +kernel
theorem dX12_drops_145 : decode cX12_drops 145 = .ok (.l2i, 1) := by decide +kernel
theorem dX12_drops_146 : decode cX12_drops 146 = .ok (.istore 7, 2) := by decide +kernel
theorem dX12_drops_148 : decode cX12_drops 148 = .ok (.iload 7, 2) := by decide +kernel
theorem dX12_drops_150 : decode cX12_drops 150 = .ok (.iconst 1, 1) := by decide +kernel
theorem dX12_drops_151 : decode cX12_drops 151 = .ok (.aload_n 0, 1) := by decide +kernel
theorem dX12_drops_152 : decode cX12_drops 152 = .ok (.getfield 90, 3) := by decide +kernel
theorem dX12_drops_155 : decode cX12_drops 155 = .ok (.iconst 1, 1) := by decide +kernel
theorem dX12_drops_156 : decode cX12_drops 156 = .ok (.iaload, 1) := by decide +kernel
theorem dX12_drops_157 : decode cX12_drops 157 = .ok (.invokestatic 132, 3) := by decide +kernel
theorem dX12_drops_160 : decode cX12_drops 160 = .ok (.ifCond .ne 6, 3) := by decide +kernel
theorem dX12_drops_163 : decode cX12_drops 163 = .ok (.iload 4, 2) := by decide +kernel
theorem dX12_drops_165 : decode cX12_drops 165 = .ok (.ireturn, 1) := by decide +kernel
theorem dX12_drops_166 : decode cX12_drops 166 = .ok (.aload_n 0, 1) := by decide +kernel
theorem dX12_drops_167 : decode cX12_drops 167 = .ok (.iload 7, 2) := by decide +kernel
theorem dX12_drops_169 : decode cX12_drops 169 = .ok (.invokevirtual 327, 3) := by decide +kernel
theorem dX12_drops_172 : decode cX12_drops 172 = .ok (.pop, 1) := by decide +kernel
theorem dX12_drops_173 : decode cX12_drops 173 = .ok (.iinc 4 1, 3) := by decide +kernel
theorem dX12_drops_176 : decode cX12_drops 176 = .ok (.goto (-106), 3) := by decide +kernel
theorem dX12_drops_179 : decode cX12_drops 179 = .ok (.iload_n 3, 1) := by decide +kernel
theorem dX12_drops_180 : decode cX12_drops 180 = .ok (.ireturn, 1) := by decide +kernel
set_option maxRecDepth 20000 in
theorem ggX12_guess_X12_stepsNow : GoodIn wsX12_guess wsX12_stepsNow := goodIn_r _ [6, 1, 7, 11, 12, 13, 14, 15, 16, 17, 18, 19, 20, 21, 22, 23, 24, 25, 26, 27, 28, 29, 30, 31, 32, 33, 34, 35, 36, 37, 38, 39, 40, 41, 42, 43, 44, 45, 46, 47, 48, 49, 50, 51, 52, 53, 54, 55, 56, 57, 58, 59, 60, 61, 62, 63, 64, 65, 66, 67] (by decide +kernel) (by decide +kernel)
set_option maxRecDepth 20000 in
theorem gX12_guess_X12_stepsNow : GoodIn wsX12_guess (wsV RX12 324 RX12 yX12_stepsNow wsX12_stepsNow) := goodIn_app (goodIn_of _ (by decide +kernel)) ggX12_guess_X12_stepsNow
set_option maxRecDepth 20000 in
theorem ggX12_guess_X12_in : GoodIn wsX12_guess wsX12_in := goodIn_r _ [10] (by decide +kernel) (by decide +kernel)
set_option maxRecDepth 20000 in
theorem gX12_guess_X12_in : GoodIn wsX12_guess (va_wsS RX12 132 yX12_in wsX12_in) := goodIn_app (goodIn_of _ (by decide +kernel)) ggX12_guess_X12_in
theorem dX12_guess_0 : decode cX12_guess 0 = .ok (.iload_n 1, 1) := by decide +kernel
theorem dX12_guess_1 : decode cX12_guess 1 = .ok (.iconst 0, 1) := by decide +kernel
theorem dX12_guess_2 : decode cX12_guess 2 = .ok (.aload_n 0, 1) := by decide +kernel
theorem dX12_guess_3 : decode cX12_guess 3 = .ok (.invokevirtual 324, 3) := by decide +kernel
theorem dX12_guess_6 : decode cX12_guess 6 = .ok (.invokestatic 132, 3) := by decide +kernel
theorem dX12_guess_9 : decode cX12_guess 9 = .ok (.ifCond .ne 5, 3) := by decide +kernel
theorem dX12_guess_12 : decode cX12_guess 12 = .ok (.iconst (-1), 1) := by decide +kernel
theorem dX12_guess_13 : decode cX12_guess 13 = .ok (.ireturn, 1) := by decide +kernel
theorem dX12_guess_14 : decode cX12_guess 14 = .ok (.aload_n 0, 1) := by decide +kernel
theorem dX12_guess_15 : decode cX12_guess 15 = .ok (.getfield 90, 3) := by decide +kernel
theorem dX12_guess_18 : decode cX12_guess 18 = .ok (.iconst 0, 1) := by decide +kernel
theorem dX12_guess_19 : decode cX12_guess 19 = .ok (.iaload, 1) := by decide +kernel
theorem dX12_guess_20 : decode cX12_guess 20 = .ok (.ifCond .ge 6, 3) := by decide +kernel
theorem dX12_guess_23 : decode cX12_guess 23 = .ok (.bipush (-5), 2) := by decide +kernel
theorem dX12_guess_25 : decode cX12_guess 25 = .ok (.ireturn, 1) := by decide +kernel
theorem dX12_guess_26 : decode cX12_guess 26 = .ok (.iload_n 1, 1) := by decide +kernel
theorem dX12_guess_27 : decode cX12_guess 27 = .ok (.aload_n 0, 1) := by decide +kernel
theorem dX12_guess_28 : decode cX12_guess 28 = .ok (.getfield 90, 3) := by decide +kernel
theorem dX12_guess_31 : decode cX12_guess 31 = .ok (.iconst 0, 1) := by decide +kernel
theorem dX12_guess_32 : decode cX12_guess 32 = .ok (.iaload, 1) := by decide +kernel
theorem dX12_guess_33 : decode cX12_guess 33 = .ok (.if_icmp .ne 7, 3) := by decide +kernel
theorem dX12_guess_36 : decode cX12_guess 36 = .ok (.iconst 1, 1) := by decide +kernel
theorem dX12_guess_37 : decode cX12_guess 37 = .ok (.goto 4, 3) := by decide +kernel
theorem dX12_guess_40 : decode cX12_guess 40 = .ok (.iconst 0, 1) := by decide +kernel
theorem dX12_guess_41 : decode cX12_guess 41 = .ok (.istore_n 2, 1) := by decide +kernel
theorem dX12_guess_42 : decode cX12_guess 42 = .ok (.aload_n 0, 1) := by decide +kernel
theorem dX12_guess_43 : decode cX12_guess 43 = .ok (.getfield 90, 3) := by decide +kernel
theorem dX12_guess_46 : decode cX12_guess 46 = .ok (.bipush 7, 2) := by decide +kernel
theorem dX12_guess_48 : decode cX12_guess 48 = .ok (.dup2, 1) := by decide +kernel
theorem dX12_guess_49 : decode cX12_guess 49 = .ok (.iaload, 1) := by decide +kernel
theorem dX12_guess_50 : decode cX12_guess 50 = .ok (.iload_n 2, 1) := by decide +kernel
theorem dX12_guess_51 : decode cX12_guess 51 = .ok (.iadd, 1) := by decide +kernel
theorem dX12_guess_52 : decode cX12_guess 52 = .ok (.iastore, 1) := by decide +kernel
theorem dX12_guess_53 : decode cX12_guess 53 = .ok (.aload_n 0, 1) := by decide +kernel
theorem dX12_guess_54 : decode cX12_guess 54 = .ok (.getfield 90, 3) := by decide +kernel
theorem dX12_guess_57 : decode cX12_guess 57 = .ok (.bipush 8, 2) := by decide +kernel
theorem dX12_guess_59 : decode cX12_guess 59 = .ok (.dup2, 1) := by decide +kernel
theorem dX12_guess_60 : decode cX12_guess 60 = .ok (.iaload, 1) := by decide +kernel
theorem dX12_guess_61 : decode cX12_guess 61 = .ok (.iconst 1, 1) := by decide +kernel
theorem dX12_guess_62 : decode cX12_guess 62 = .ok (.iadd, 1) := by decide +kernel
theorem dX12_guess_63 : decode cX12_guess 63 = .ok (.iastore, 1) := by decide +kernel
theorem dX12_guess_64 : decode cX12_guess 64 = .ok (.aload_n 0, 1) := by decide +kernel
theorem dX12_guess_65 : decode cX12_guess 65 = .ok (.getfield 90, 3) := by decide +kernel
theorem dX12_guess_68 : decode cX12_guess 68 = .ok (.iconst 0, 1) := by decide +kernel
theorem dX12_guess_69 : decode cX12_guess 69 = .ok (.iconst (-1), 1) := by decide +kernel
theorem dX12_guess_70 : decode cX12_guess 70 = .ok (.iastore, 1) := by decide +kernel
theorem dX12_guess_71 : decode cX12_guess 71 = .ok (.iload_n 2, 1) := by decide +kernel
theorem dX12_guess_72 : decode cX12_guess 72 = .ok (.ireturn, 1) := by decide +kernel
set_option maxRecDepth 20000 in
theorem ggX12_led_X12_in : GoodIn wsX12_led wsX12_in := goodIn_r _ [5] (by decide +kernel) (by decide +kernel)
set_option maxRecDepth 20000 in
theorem gX12_led_X12_in : GoodIn wsX12_led (va_wsS RX12 132 yX12_in wsX12_in) := goodIn_app (goodIn_of _ (by decide +kernel)) ggX12_led_X12_in
theorem dX12_led_0 : decode cX12_led 0 = .ok (.iload_n 1, 1) := by decide +kernel
theorem dX12_led_1 : decode cX12_led 1 = .ok (.iconst 0, 1) := by decide +kernel
theorem dX12_led_2 : decode cX12_led 2 = .ok (.iconst 5, 1) := by decide +kernel
theorem dX12_led_3 : decode cX12_led 3 = .ok (.invokestatic 132, 3) := by decide +kernel
theorem dX12_led_6 : decode cX12_led 6 = .ok (.ifCond .ne 5, 3) := by decide +kernel
theorem dX12_led_9 : decode cX12_led 9 = .ok (.iconst (-1), 1) := by decide +kernel
theorem dX12_led_10 : decode cX12_led 10 = .ok (.ireturn, 1) := by decide +kernel
theorem dX12_led_11 : decode cX12_led 11 = .ok (.iload_n 1, 1) := by decide +kernel
theorem dX12_led_12 : decode cX12_led 12 = .ok (.iconst 3, 1) := by decide +kernel
theorem dX12_led_13 : decode cX12_led 13 = .ok (.if_icmp .le 12, 3) := by decide +kernel
theorem dX12_led_16 : decode cX12_led 16 = .ok (.aload_n 0, 1) := by decide +kernel
theorem dX12_led_17 : decode cX12_led 17 = .ok (.getfield 90, 3) := by decide +kernel
theorem dX12_led_20 : decode cX12_led 20 = .ok (.iconst 3, 1) := by decide +kernel
theorem dX12_led_21 : decode cX12_led 21 = .ok (.iload_n 1, 1) := by decide +kernel
theorem dX12_led_22 : decode cX12_led 22 = .ok (.iadd, 1) := by decide +kernel
theorem dX12_led_23 : decode cX12_led 23 = .ok (.iaload, 1) := by decide +kernel
theorem dX12_led_24 : decode cX12_led 24 = .ok (.ireturn, 1) := by decide +kernel
theorem dX12_led_25 : decode cX12_led 25 = .ok (.aload_n 0, 1) := by decide +kernel
theorem dX12_led_26 : decode cX12_led 26 = .ok (.getfield 90, 3) := by decide +kernel
theorem dX12_led_29 : decode cX12_led 29 = .ok (.iconst 0, 1) := by decide +kernel
theorem dX12_led_30 : decode cX12_led 30 = .ok (.iaload, 1) := by decide +kernel
theorem dX12_led_31 : decode cX12_led 31 = .ok (.ifCond .ge 8, 3) := by decide +kernel
theorem dX12_led_34 : decode cX12_led 34 = .ok (.bipush (-5), 2) := by decide +kernel
theorem dX12_led_36 : decode cX12_led 36 = .ok (.goto 11, 3) := by decide +kernel
theorem dX12_led_39 : decode cX12_led 39 = .ok (.aload_n 0, 1) := by decide +kernel
theorem dX12_led_40 : decode cX12_led 40 = .ok (.getfield 90, 3) := by decide +kernel
theorem dX12_led_43 : decode cX12_led 43 = .ok (.iconst 3, 1) := by decide +kernel
theorem dX12_led_44 : decode cX12_led 44 = .ok (.iload_n 1, 1) := by decide +kernel
theorem dX12_led_45 : decode cX12_led 45 = .ok (.iadd, 1) := by decide +kernel
theorem dX12_led_46 : decode cX12_led 46 = .ok (.iaload, 1) := by decide +kernel
theorem dX12_led_47 : decode cX12_led 47 = .ok (.ireturn, 1) := by decide +kernel
theorem dX12_image_0 : decode cX12_image 0 = .ok (.aload_n 0, 1) := by decide +kernel
theorem dX12_image_1 : decode cX12_image 1 = .ok (.iconst 1, 1) := by decide +kernel
theorem dX12_image_2 : decode cX12_image 2 = .ok (.putfield 330, 3) := by decide +kernel
theorem dX12_image_5 : decode cX12_image 5 = .ok (.iconst 0, 1) := by decide +kernel
theorem dX12_image_6 : decode cX12_image 6 = .ok (.istore_n 1, 1) := by decide +kernel
theorem dX12_image_7 : decode cX12_image 7 = .ok (.iload_n 1, 1) := by decide +kernel
theorem dX12_image_8 : decode cX12_image 8 = .ok (.bipush 9, 2) := by decide +kernel
theorem dX12_image_10 : decode cX12_image 10 = .ok (.if_icmp .ge 21, 3) := by decide +kernel
theorem dX12_image_13 : decode cX12_image 13 = .ok (.aload_n 0, 1) := by decide +kernel
theorem dX12_image_14 : decode cX12_image 14 = .ok (.getfield 93, 3) := by decide +kernel
theorem dX12_image_17 : decode cX12_image 17 = .ok (.iload_n 1, 1) := by decide +kernel
theorem dX12_image_18 : decode cX12_image 18 = .ok (.aload_n 0, 1) := by decide +kernel
theorem dX12_image_19 : decode cX12_image 19 = .ok (.getfield 90, 3) := by decide +kernel
theorem dX12_image_22 : decode cX12_image 22 = .ok (.iload_n 1, 1) := by decide +kernel
theorem dX12_image_23 : decode cX12_image 23 = .ok (.iaload, 1) := by decide +kernel
theorem dX12_image_24 : decode cX12_image 24 = .ok (.iastore, 1) := by decide +kernel
theorem dX12_image_25 : decode cX12_image 25 = .ok (.iinc 1 1, 3) := by decide +kernel
theorem dX12_image_28 : decode cX12_image 28 = .ok (.goto (-21), 3) := by decide +kernel
theorem dX12_image_31 : decode cX12_image 31 = .ok (.aload_n 0, 1) := by decide +kernel
theorem dX12_image_32 : decode cX12_image 32 = .ok (.getfield 90, 3) := by decide +kernel
theorem dX12_image_35 : decode cX12_image 35 = .ok (.iconst 0, 1) := by decide +kernel
theorem dX12_image_36 : decode cX12_image 36 = .ok (.iaload, 1) := by decide +kernel
theorem dX12_image_37 : decode cX12_image 37 = .ok (.ifCond .ge 7, 3) := by decide +kernel
theorem dX12_image_40 : decode cX12_image 40 = .ok (.iconst 0, 1) := by decide +kernel
theorem dX12_image_41 : decode cX12_image 41 = .ok (.goto 9, 3) := by decide +kernel
theorem dX12_image_44 : decode cX12_image 44 = .ok (.aload_n 0, 1) := by decide +kernel
theorem dX12_image_45 : decode cX12_image 45 = .ok (.getfield 90, 3) := by decide +kernel
theorem dX12_image_48 : decode cX12_image 48 = .ok (.iconst 3, 1) := by decide +kernel
theorem dX12_image_49 : decode cX12_image 49 = .ok (.iaload, 1) := by decide +kernel
theorem dX12_image_50 : decode cX12_image 50 = .ok (.ireturn, 1) := by decide +kernel
theorem dX12_back_0 : decode cX12_back 0 = .ok (.aload_n 0, 1) := by decide +kernel
theorem dX12_back_1 : decode cX12_back 1 = .ok (.getfield 330, 3) := by decide +kernel
theorem dX12_back_4 : decode cX12_back 4 = .ok (.ifCond .ne 6, 3) := by decide +kernel
theorem dX12_back_7 : decode cX12_back 7 = .ok (.bipush (-5), 2) := by decide +kernel
theorem dX12_back_9 : decode cX12_back 9 = .ok (.ireturn, 1) := by decide +kernel
theorem dX12_back_10 : decode cX12_back 10 = .ok (.iconst 0, 1) := by decide +kernel
theorem dX12_back_11 : decode cX12_back 11 = .ok (.istore_n 1, 1) := by decide +kernel
theorem dX12_back_12 : decode cX12_back 12 = .ok (.iload_n 1, 1) := by decide +kernel
theorem dX12_back_13 : decode cX12_back 13 = .ok (.bipush 9, 2) := by decide +kernel
theorem dX12_back_15 : decode cX12_back 15 = .ok (.if_icmp .ge 21, 3) := by decide +kernel
theorem dX12_back_18 : decode cX12_back 18 = .ok (.aload_n 0, 1) := by decide +kernel
theorem dX12_back_19 : decode cX12_back 19 = .ok (.getfield 90, 3) := by decide +kernel
theorem dX12_back_22 : decode cX12_back 22 = .ok (.iload_n 1, 1) := by decide +kernel
theorem dX12_back_23 : decode cX12_back 23 = .ok (.aload_n 0, 1) := by decide +kernel
theorem dX12_back_24 : decode cX12_back 24 = .ok (.getfield 93, 3) := by decide +kernel
theorem dX12_back_27 : decode cX12_back 27 = .ok (.iload_n 1, 1) := by decide +kernel
theorem dX12_back_28 : decode cX12_back 28 = .ok (.iaload, 1) := by decide +kernel
theorem dX12_back_29 : decode cX12_back 29 = .ok (.iastore, 1) := by decide +kernel
theorem dX12_back_30 : decode cX12_back 30 = .ok (.iinc 1 1, 3) := by decide +kernel
theorem dX12_back_33 : decode cX12_back 33 = .ok (.goto (-21), 3) := by decide +kernel
theorem dX12_back_36 : decode cX12_back 36 = .ok (.aload_n 0, 1) := by decide +kernel
theorem dX12_back_37 : decode cX12_back 37 = .ok (.getfield 90, 3) := by decide +kernel
theorem dX12_back_40 : decode cX12_back 40 = .ok (.iconst 0, 1) := by decide +kernel
theorem dX12_back_41 : decode cX12_back 41 = .ok (.iaload, 1) := by decide +kernel
theorem dX12_back_42 : decode cX12_back 42 = .ok (.ifCond .ge 7, 3) := by decide +kernel
theorem dX12_back_45 : decode cX12_back 45 = .ok (.iconst 0, 1) := by decide +kernel
theorem dX12_back_46 : decode cX12_back 46 = .ok (.goto 9, 3) := by decide +kernel
theorem dX12_back_49 : decode cX12_back 49 = .ok (.aload_n 0, 1) := by decide +kernel
theorem dX12_back_50 : decode cX12_back 50 = .ok (.getfield 90, 3) := by decide +kernel
theorem dX12_back_53 : decode cX12_back 53 = .ok (.iconst 3, 1) := by decide +kernel
theorem dX12_back_54 : decode cX12_back 54 = .ok (.iaload, 1) := by decide +kernel
theorem dX12_back_55 : decode cX12_back 55 = .ok (.ireturn, 1) := by decide +kernel
set_option maxRecDepth 20000 in
theorem ggX12_isBody_X12_in : GoodIn wsX12_isBody wsX12_in := goodIn_r _ [5] (by decide +kernel) (by decide +kernel)
set_option maxRecDepth 20000 in
theorem gX12_isBody_X12_in : GoodIn wsX12_isBody (va_wsS RX12 132 yX12_in wsX12_in) := goodIn_app (goodIn_of _ (by decide +kernel)) ggX12_isBody_X12_in
theorem dX12_isBody_0 : decode cX12_isBody 0 = .ok (.iload_n 1, 1) := by decide +kernel
theorem dX12_isBody_1 : decode cX12_isBody 1 = .ok (.iconst 0, 1) := by decide +kernel
theorem dX12_isBody_2 : decode cX12_isBody 2 = .ok (.aload_n 0, 1) := by decide +kernel
theorem dX12_isBody_3 : decode cX12_isBody 3 = .ok (.getfield 333, 3) := by decide +kernel
theorem dX12_isBody_6 : decode cX12_isBody 6 = .ok (.iconst 1, 1) := by decide +kernel
theorem dX12_isBody_7 : decode cX12_isBody 7 = .ok (.isub, 1) := by decide +kernel
theorem dX12_isBody_8 : decode cX12_isBody 8 = .ok (.invokestatic 132, 3) := by decide +kernel
theorem dX12_isBody_11 : decode cX12_isBody 11 = .ok (.ireturn, 1) := by decide +kernel
theorem dX12_ran_0 : decode cX12_ran 0 = .ok (.aload_n 0, 1) := by decide +kernel
theorem dX12_ran_1 : decode cX12_ran 1 = .ok (.getfield 336, 3) := by decide +kernel
theorem dX12_ran_4 : decode cX12_ran 4 = .ok (.bipush 24, 2) := by decide +kernel
theorem dX12_ran_6 : decode cX12_ran 6 = .ok (.if_icmp .ge 13, 3) := by decide +kernel
theorem dX12_ran_9 : decode cX12_ran 9 = .ok (.aload_n 0, 1) := by decide +kernel
theorem dX12_ran_10 : decode cX12_ran 10 = .ok (.getfield 99, 3) := by decide +kernel
theorem dX12_ran_13 : decode cX12_ran 13 = .ok (.aload_n 0, 1) := by decide +kernel
theorem dX12_ran_14 : decode cX12_ran 14 = .ok (.getfield 336, 3) := by decide +kernel
theorem dX12_ran_17 : decode cX12_ran 17 = .ok (.iload_n 1, 1) := by decide +kernel
theorem dX12_ran_18 : decode cX12_ran 18 = .ok (.iastore, 1) := by decide +kernel
theorem dX12_ran_19 : decode cX12_ran 19 = .ok (.aload_n 0, 1) := by decide +kernel
theorem dX12_ran_20 : decode cX12_ran 20 = .ok (.dup, 1) := by decide +kernel
theorem dX12_ran_21 : decode cX12_ran 21 = .ok (.getfield 336, 3) := by decide +kernel
theorem dX12_ran_24 : decode cX12_ran 24 = .ok (.iconst 1, 1) := by decide +kernel
theorem dX12_ran_25 : decode cX12_ran 25 = .ok (.iadd, 1) := by decide +kernel
theorem dX12_ran_26 : decode cX12_ran 26 = .ok (.putfield 336, 3) := by decide +kernel
theorem dX12_ran_29 : decode cX12_ran 29 = .ok (.return_, 1) := by decide +kernel
theorem dX12_trace_0 : decode cX12_trace 0 = .ok (.iload_n 1, 1) := by decide +kernel
theorem dX12_trace_1 : decode cX12_trace 1 = .ok (.ifCond .lt 26, 3) := by decide +kernel
theorem dX12_trace_4 : decode cX12_trace 4 = .ok (.iload_n 1, 1) := by decide +kernel
theorem dX12_trace_5 : decode cX12_trace 5 = .ok (.aload_n 0, 1) := by decide +kernel
theorem dX12_trace_6 : decode cX12_trace 6 = .ok (.getfield 336, 3) := by decide +kernel
theorem dX12_trace_9 : decode cX12_trace 9 = .ok (.if_icmp .ge 18, 3) := by decide +kernel
theorem dX12_trace_12 : decode cX12_trace 12 = .ok (.iload_n 1, 1) := by decide +kernel
theorem dX12_trace_13 : decode cX12_trace 13 = .ok (.bipush 24, 2) := by decide +kernel
theorem dX12_trace_15 : decode cX12_trace 15 = .ok (.if_icmp .ge 12, 3) := by decide +kernel
theorem dX12_trace_18 : decode cX12_trace 18 = .ok (.aload_n 0, 1) := by decide +kernel
theorem dX12_trace_19 : decode cX12_trace 19 = .ok (.getfield 99, 3) := by decide +kernel
theorem dX12_trace_22 : decode cX12_trace 22 = .ok (.iload_n 1, 1) := by decide +kernel
theorem dX12_trace_23 : decode cX12_trace 23 = .ok (.iaload, 1) := by decide +kernel
theorem dX12_trace_24 : decode cX12_trace 24 = .ok (.goto 4, 3) := by decide +kernel
theorem dX12_trace_27 : decode cX12_trace 27 = .ok (.iconst (-1), 1) := by decide +kernel
theorem dX12_trace_28 : decode cX12_trace 28 = .ok (.ireturn, 1) := by decide +kernel
set_option maxRecDepth 20000 in
theorem ggX12_body_X12_in : GoodIn wsX12_body wsX12_in := goodIn_r _ [6] (by decide +kernel) (by decide +kernel)
set_option maxRecDepth 20000 in
theorem gX12_body_X12_in : GoodIn wsX12_body (va_wsS RX12 132 yX12_in wsX12_in) := goodIn_app (goodIn_of _ (by decide +kernel)) ggX12_body_X12_in
theorem dX12_body_0 : decode cX12_body 0 = .ok (.iload_n 1, 1) := by decide +kernel
theorem dX12_body_1 : decode cX12_body 1 = .ok (.iconst 0, 1) := by decide +kernel
theorem dX12_body_2 : decode cX12_body 2 = .ok (.bipush 7, 2) := by decide +kernel
theorem dX12_body_4 : decode cX12_body 4 = .ok (.invokestatic 132, 3) := by decide +kernel
theorem dX12_body_7 : decode cX12_body 7 = .ok (.ifCond .ne 5, 3) := by decide +kernel
theorem dX12_body_10 : decode cX12_body 10 = .ok (.iconst (-1), 1) := by decide +kernel
theorem dX12_body_11 : decode cX12_body 11 = .ok (.ireturn, 1) := by decide +kernel
theorem dX12_body_12 : decode cX12_body 12 = .ok (.aload_n 0, 1) := by decide +kernel
theorem dX12_body_13 : decode cX12_body 13 = .ok (.getfield 333, 3) := by decide +kernel
theorem dX12_body_16 : decode cX12_body 16 = .ok (.bipush 50, 2) := by decide +kernel
theorem dX12_body_18 : decode cX12_body 18 = .ok (.if_icmp .ne 6, 3) := by decide +kernel
theorem dX12_body_21 : decode cX12_body 21 = .ok (.bipush (-3), 2) := by decide +kernel
theorem dX12_body_23 : decode cX12_body 23 = .ok (.ireturn, 1) := by decide +kernel
theorem dX12_body_24 : decode cX12_body 24 = .ok (.aload_n 0, 1) := by decide +kernel
theorem dX12_body_25 : decode cX12_body 25 = .ok (.getfield 96, 3) := by decide +kernel
theorem dX12_body_28 : decode cX12_body 28 = .ok (.aload_n 0, 1) := by decide +kernel
theorem dX12_body_29 : decode cX12_body 29 = .ok (.getfield 333, 3) := by decide +kernel
theorem dX12_body_32 : decode cX12_body 32 = .ok (.iload_n 1, 1) := by decide +kernel
theorem dX12_body_33 : decode cX12_body 33 = .ok (.iastore, 1) := by decide +kernel
theorem dX12_body_34 : decode cX12_body 34 = .ok (.aload_n 0, 1) := by decide +kernel
theorem dX12_body_35 : decode cX12_body 35 = .ok (.dup, 1) := by decide +kernel
theorem dX12_body_36 : decode cX12_body 36 = .ok (.getfield 333, 3) := by decide +kernel
theorem dX12_body_39 : decode cX12_body 39 = .ok (.iconst 1, 1) := by decide +kernel
theorem dX12_body_40 : decode cX12_body 40 = .ok (.iadd, 1) := by decide +kernel
theorem dX12_body_41 : decode cX12_body 41 = .ok (.putfield 333, 3) := by decide +kernel
theorem dX12_body_44 : decode cX12_body 44 = .ok (.aload_n 0, 1) := by decide +kernel
theorem dX12_body_45 : decode cX12_body 45 = .ok (.getfield 333, 3) := by decide +kernel
theorem dX12_body_48 : decode cX12_body 48 = .ok (.iconst 1, 1) := by decide +kernel
theorem dX12_body_49 : decode cX12_body 49 = .ok (.isub, 1) := by decide +kernel
theorem dX12_body_50 : decode cX12_body 50 = .ok (.ireturn, 1) := by decide +kernel
theorem dX12_isUnder_0 : decode cX12_isUnder 0 = .ok (.iload_n 1, 1) := by decide +kernel
theorem dX12_isUnder_1 : decode cX12_isUnder 1 = .ok (.ifCond .eq 55, 3) := by decide +kernel
theorem dX12_isUnder_4 : decode cX12_isUnder 4 = .ok (.iload_n 0, 1) := by decide +kernel
theorem dX12_isUnder_5 : decode cX12_isUnder 5 = .ok (.iload_n 1, 1) := by decide +kernel
theorem dX12_isUnder_6 : decode cX12_isUnder 6 = .ok (.if_icmp .eq 50, 3) := by decide +kernel
theorem dX12_isUnder_9 : decode cX12_isUnder 9 = .ok (.iload_n 1, 1) := by decide +kernel
theorem dX12_isUnder_10 : decode cX12_isUnder 10 = .ok (.iconst 1, 1) := by decide +kernel
theorem dX12_isUnder_11 : decode cX12_isUnder 11 = .ok (.if_icmp .ne 8, 3) := by decide +kernel
theorem dX12_isUnder_14 : decode cX12_isUnder 14 = .ok (.iload_n 0, 1) := by decide +kernel
theorem dX12_isUnder_15 : decode cX12_isUnder 15 = .ok (.iconst 4, 1) := by decide +kernel
theorem dX12_isUnder_16 : decode cX12_isUnder 16 = .ok (.if_icmp .eq 40, 3) := by decide +kernel
theorem dX12_isUnder_19 : decode cX12_isUnder 19 = .ok (.iload_n 1, 1) := by decide +kernel
theorem dX12_isUnder_20 : decode cX12_isUnder 20 = .ok (.iconst 2, 1) := by decide +kernel
theorem dX12_isUnder_21 : decode cX12_isUnder 21 = .ok (.if_icmp .ne 13, 3) := by decide +kernel
theorem dX12_isUnder_24 : decode cX12_isUnder 24 = .ok (.iload_n 0, 1) := by decide +kernel
theorem dX12_isUnder_25 : decode cX12_isUnder 25 = .ok (.iconst 3, 1) := by decide +kernel
theorem dX12_isUnder_26 : decode cX12_isUnder 26 = .ok (.if_icmp .eq 30, 3) := by decide +kernel
theorem dX12_isUnder_29 : decode cX12_isUnder 29 = .ok (.iload_n 0, 1) := by decide +kernel
theorem dX12_isUnder_30 : decode cX12_isUnder 30 = .ok (.iconst 5, 1) := by decide +kernel
theorem dX12_isUnder_31 : decode cX12_isUnder 31 = .ok (.if_icmp .eq 25, 3) := by decide +kernel
theorem dX12_isUnder_34 : decode cX12_isUnder 34 = .ok (.iload_n 1, 1) := by decide +kernel
theorem dX12_isUnder_35 : decode cX12_isUnder 35 = .ok (.iconst 3, 1) := by decide +kernel
theorem dX12_isUnder_36 : decode cX12_isUnder 36 = .ok (.if_icmp .ne 8, 3) := by decide +kernel
theorem dX12_isUnder_39 : decode cX12_isUnder 39 = .ok (.iload_n 0, 1) := by decide +kernel
theorem dX12_isUnder_40 : decode cX12_isUnder 40 = .ok (.iconst 5, 1) := by decide +kernel
theorem dX12_isUnder_41 : decode cX12_isUnder 41 = .ok (.if_icmp .eq 15, 3) := by decide +kernel
theorem dX12_isUnder_44 : decode cX12_isUnder 44 = .ok (.iload_n 1, 1) := by decide +kernel
theorem dX12_isUnder_45 : decode cX12_isUnder 45 = .ok (.bipush 6, 2) := by decide +kernel
theorem dX12_isUnder_47 : decode cX12_isUnder 47 = .ok (.if_icmp .ne 13, 3) := by decide +kernel
theorem dX12_isUnder_50 : decode cX12_isUnder 50 = .ok (.iload_n 0, 1) := by decide +kernel
theorem dX12_isUnder_51 : decode cX12_isUnder 51 = .ok (.bipush 7, 2) := by decide +kernel
theorem dX12_isUnder_53 : decode cX12_isUnder 53 = .ok (.if_icmp .ne 7, 3) := by decide +kernel
theorem dX12_isUnder_56 : decode cX12_isUnder 56 = .ok (.iconst 1, 1) := by decide +kernel
theorem dX12_isUnder_57 : decode cX12_isUnder 57 = .ok (.goto 4, 3) := by decide +kernel
theorem dX12_isUnder_60 : decode cX12_isUnder 60 = .ok (.iconst 0, 1) := by decide +kernel
theorem dX12_isUnder_61 : decode cX12_isUnder 61 = .ok (.ireturn, 1) := by decide +kernel
set_option maxRecDepth 20000 in
theorem ggX12_plainDrops_X12_ran : GoodIn wsX12_plainDrops wsX12_ran := goodIn_r _ [5, 6, 7, 8, 9, 10, 11, 12, 13, 14, 15, 16, 17, 18, 19, 20, 21, 22, 23, 24, 25, 26, 27, 28, 29, 30, 31, 32, 33, 34, 35, 36, 37, 38, 39, 40, 41, 42, 43, 44, 45, 46, 47, 48, 49, 50, 51, 52, 53, 54, 55, 56, 57, 58, 59, 60, 61, 62, 63, 64] (by decide +kernel) (by decide +kernel)
