set_option maxRecDepth 20000 in
theorem ggX2_first_X2_isThere : GoodIn wsX2_first wsX2_isThere := goodIn_r _ [5] (by decide +kernel) (by decide +kernel)
set_option maxRecDepth 20000 in
theorem gX2_first_X2_isThere : GoodIn wsX2_first (va_wsS RX2 39 yX2_isThere wsX2_isThere) := goodIn_app (goodIn_of _ (by decide +kernel)) ggX2_first_X2_isThere
theorem dX2_first_0 : decode cX2_first 0 = .ok (.iload_n 1, 1) := by decide +kernel
theorem dX2_first_1 : decode cX2_first 1 = .ok (.iload_n 2, 1) := by decide +kernel
theorem dX2_first_2 : decode cX2_first 2 = .ok (.invokestatic 39, 3) := by decide +kernel
theorem dX2_first_5 : decode cX2_first 5 = .ok (.ifCond .eq 14, 3) := by decide +kernel
theorem dX2_first_8 : decode cX2_first 8 = .ok (.aload_n 0, 1) := by decide +kernel
theorem dX2_first_9 : decode cX2_first 9 = .ok (.getfield 16, 3) := by decide +kernel
theorem dX2_first_12 : decode cX2_first 12 = .ok (.iload_n 1, 1) := by decide +kernel
theorem dX2_first_13 : decode cX2_first 13 = .ok (.aaload, 1) := by decide +kernel
theorem dX2_first_14 : decode cX2_first 14 = .ok (.iload_n 2, 1) := by decide +kernel
theorem dX2_first_15 : decode cX2_first 15 = .ok (.iaload, 1) := by decide +kernel
theorem dX2_first_16 : decode cX2_first 16 = .ok (.goto 4, 3) := by decide +kernel
theorem dX2_first_19 : decode cX2_first 19 = .ok (.iconst 0, 1) := by decide +kernel
theorem dX2_first_20 : decode cX2_first 20 = .ok (.ireturn, 1) := by decide +kernel
theorem dX2_isThere_0 : decode cX2_isThere 0 = .ok (.iload_n 0, 1) := by decide +kernel
theorem dX2_isThere_1 : decode cX2_isThere 1 = .ok (.ifCond .lt 24, 3) := by decide +kernel
theorem dX2_isThere_4 : decode cX2_isThere 4 = .ok (.iload_n 0, 1) := by decide +kernel
theorem dX2_isThere_5 : decode cX2_isThere 5 = .ok (.bipush 6, 2) := by decide +kernel
theorem dX2_isThere_7 : decode cX2_isThere 7 = .ok (.if_icmp .gt 18, 3) := by decide +kernel
theorem dX2_isThere_10 : decode cX2_isThere 10 = .ok (.iload_n 1, 1) := by decide +kernel
theorem dX2_isThere_11 : decode cX2_isThere 11 = .ok (.iconst 1, 1) := by decide +kernel
theorem dX2_isThere_12 : decode cX2_isThere 12 = .ok (.if_icmp .lt 13, 3) := by decide +kernel
theorem dX2_isThere_15 : decode cX2_isThere 15 = .ok (.iload_n 1, 1) := by decide +kernel
theorem dX2_isThere_16 : decode cX2_isThere 16 = .ok (.bipush 61, 2) := by decide +kernel
theorem dX2_isThere_18 : decode cX2_isThere 18 = .ok (.if_icmp .gt 7, 3) := by decide +kernel
theorem dX2_isThere_21 : decode cX2_isThere 21 = .ok (.iconst 1, 1) := by decide +kernel
theorem dX2_isThere_22 : decode cX2_isThere 22 = .ok (.goto 4, 3) := by decide +kernel
theorem dX2_isThere_25 : decode cX2_isThere 25 = .ok (.iconst 0, 1) := by decide +kernel
theorem dX2_isThere_26 : decode cX2_isThere 26 = .ok (.ireturn, 1) := by decide +kernel
theorem dX3_init_0 : decode cX3_init 0 = .ok (.aload_n 0, 1) := by decide +kernel
theorem dX3_init_1 : decode cX3_init 1 = .ok (.invokespecial 3, 3) := by decide +kernel
theorem dX3_init_4 : decode cX3_init 4 = .ok (.aload_n 0, 1) := by decide +kernel
theorem dX3_init_5 : decode cX3_init 5 = .ok (.bipush 120, 2) := by decide +kernel
theorem dX3_init_7 : decode cX3_init 7 = .ok (.newarray .int, 2) := by decide +kernel
theorem dX3_init_9 : decode cX3_init 9 = .ok (.putfield 11, 3) := by decide +kernel
theorem dX3_init_12 : decode cX3_init 12 = .ok (.aload_n 0, 1) := by decide +kernel
theorem dX3_init_13 : decode cX3_init 13 = .ok (.bipush 124, 2) := by decide +kernel
theorem dX3_init_15 : decode cX3_init 15 = .ok (.newarray .int, 2) := by decide +kernel
theorem dX3_init_17 : decode cX3_init 17 = .ok (.putfield 15, 3) := by decide +kernel
theorem dX3_init_20 : decode cX3_init 20 = .ok (.aload_n 0, 1) := by decide +kernel
theorem dX3_init_21 : decode cX3_init 21 = .ok (.bipush 124, 2) := by decide +kernel
theorem dX3_init_23 : decode cX3_init 23 = .ok (.newarray .int, 2) := by decide +kernel
theorem dX3_init_25 : decode cX3_init 25 = .ok (.putfield 18, 3) := by decide +kernel
theorem dX3_init_28 : decode cX3_init 28 = .ok (.aload_n 0, 1) := by decide +kernel
theorem dX3_init_29 : decode cX3_init 29 = .ok (.bipush 124, 2) := by decide +kernel
theorem dX3_init_31 : decode cX3_init 31 = .ok (.newarray .int, 2) := by decide +kernel
theorem dX3_init_33 : decode cX3_init 33 = .ok (.putfield 21, 3) := by decide +kernel
theorem dX3_init_36 : decode cX3_init 36 = .ok (.return_, 1) := by decide +kernel
theorem dX3_take_0 : decode cX3_take 0 = .ok (.aload_n 0, 1) := by decide +kernel
theorem dX3_take_1 : decode cX3_take 1 = .ok (.getfield 24, 3) := by decide +kernel
theorem dX3_take_4 : decode cX3_take 4 = .ok (.bipush 120, 2) := by decide +kernel
theorem dX3_take_6 : decode cX3_take 6 = .ok (.if_icmp .lt 6, 3) := by decide +kernel
theorem dX3_take_9 : decode cX3_take 9 = .ok (.bipush (-3), 2) := by decide +kernel
theorem dX3_take_11 : decode cX3_take 11 = .ok (.ireturn, 1) := by decide +kernel
theorem dX3_take_12 : decode cX3_take 12 = .ok (.aload_n 0, 1) := by decide +kernel
theorem dX3_take_13 : decode cX3_take 13 = .ok (.getfield 11, 3) := by decide +kernel
theorem dX3_take_16 : decode cX3_take 16 = .ok (.aload_n 0, 1) := by decide +kernel
theorem dX3_take_17 : decode cX3_take 17 = .ok (.getfield 24, 3) := by decide +kernel
theorem dX3_take_20 : decode cX3_take 20 = .ok (.iload_n 1, 1) := by decide +kernel
theorem dX3_take_21 : decode cX3_take 21 = .ok (.iastore, 1) := by decide +kernel
theorem dX3_take_22 : decode cX3_take 22 = .ok (.aload_n 0, 1) := by decide +kernel
theorem dX3_take_23 : decode cX3_take 23 = .ok (.dup, 1) := by decide +kernel
theorem dX3_take_24 : decode cX3_take 24 = .ok (.getfield 24, 3) := by decide +kernel
theorem dX3_take_27 : decode cX3_take 27 = .ok (.iconst 1, 1) := by decide +kernel
theorem dX3_take_28 : decode cX3_take 28 = .ok (.iadd, 1) := by decide +kernel
theorem dX3_take_29 : decode cX3_take 29 = .ok (.putfield 24, 3) := by decide +kernel
theorem dX3_take_32 : decode cX3_take 32 = .ok (.aload_n 0, 1) := by decide +kernel
theorem dX3_take_33 : decode cX3_take 33 = .ok (.getfield 24, 3) := by decide +kernel
theorem dX3_take_36 : decode cX3_take 36 = .ok (.ireturn, 1) := by decide +kernel
set_option maxRecDepth 20000 in
theorem ggX3_become_X3_readText : GoodIn wsX3_become wsX3_readText := goodIn_r _ [12, 1, 4, 7, 13, 14, 15, 11, 16, 17, 18, 19, 20, 21, 22, 23, 24, 25, 26, 27, 28, 29, 30, 31, 32, 33, 34, 35, 3, 36, 37, 38, 39, 40, 41, 42, 43, 44, 45, 46, 47, 48, 49, 50, 51, 52, 53, 54, 55, 56, 57, 58, 59, 60, 61] (by decide +kernel) (by decide +kernel)
set_option maxRecDepth 20000 in
theorem gX3_become_X3_readText : GoodIn wsX3_become (wsV RX3 28 RX3 yX3_readText wsX3_readText) := goodIn_app (goodIn_of _ (by decide +kernel)) ggX3_become_X3_readText
theorem dX3_become_0 : decode cX3_become 0 = .ok (.aload_n 0, 1) := by decide +kernel
theorem dX3_become_1 : decode cX3_become 1 = .ok (.invokevirtual 28, 3) := by decide +kernel
theorem dX3_become_4 : decode cX3_become 4 = .ok (.istore_n 1, 1) := by decide +kernel
theorem dX3_become_5 : decode cX3_become 5 = .ok (.iload_n 1, 1) := by decide +kernel
theorem dX3_become_6 : decode cX3_become 6 = .ok (.ifCond .eq 7, 3) := by decide +kernel
theorem dX3_become_9 : decode cX3_become 9 = .ok (.iconst 1, 1) := by decide +kernel
theorem dX3_become_10 : decode cX3_become 10 = .ok (.goto 10, 3) := by decide +kernel
theorem dX3_become_13 : decode cX3_become 13 = .ok (.bipush (-100), 2) := by decide +kernel
theorem dX3_become_15 : decode cX3_become 15 = .ok (.aload_n 0, 1) := by decide +kernel
theorem dX3_become_16 : decode cX3_become 16 = .ok (.getfield 32, 3) := by decide +kernel
theorem dX3_become_19 : decode cX3_become 19 = .ok (.isub, 1) := by decide +kernel
theorem dX3_become_20 : decode cX3_become 20 = .ok (.istore_n 2, 1) := by decide +kernel
theorem dX3_become_21 : decode cX3_become 21 = .ok (.iload_n 1, 1) := by decide +kernel
theorem dX3_become_22 : decode cX3_become 22 = .ok (.ifCond .eq 39, 3) := by decide +kernel
theorem dX3_become_25 : decode cX3_become 25 = .ok (.aload_n 0, 1) := by decide +kernel
theorem dX3_become_26 : decode cX3_become 26 = .ok (.getfield 18, 3) := by decide +kernel
theorem dX3_become_29 : decode cX3_become 29 = .ok (.astore_n 3, 1) := by decide +kernel
theorem dX3_become_30 : decode cX3_become 30 = .ok (.aload_n 0, 1) := by decide +kernel
theorem dX3_become_31 : decode cX3_become 31 = .ok (.aload_n 0, 1) := by decide +kernel
theorem dX3_become_32 : decode cX3_become 32 = .ok (.getfield 21, 3) := by decide +kernel
theorem dX3_become_35 : decode cX3_become 35 = .ok (.putfield 18, 3) := by decide +kernel
theorem dX3_become_38 : decode cX3_become 38 = .ok (.aload_n 0, 1) := by decide +kernel
theorem dX3_become_39 : decode cX3_become 39 = .ok (.aload_n 3, 1) := by decide +kernel
theorem dX3_become_40 : decode cX3_become 40 = .ok (.putfield 21, 3) := by decide +kernel
theorem dX3_become_43 : decode cX3_become 43 = .ok (.aload_n 0, 1) := by decide +kernel
theorem dX3_become_44 : decode cX3_become 44 = .ok (.aload_n 0, 1) := by decide +kernel
theorem dX3_become_45 : decode cX3_become 45 = .ok (.getfield 35, 3) := by decide +kernel
theorem dX3_become_48 : decode cX3_become 48 = .ok (.putfield 38, 3) := by decide +kernel
theorem dX3_become_51 : decode cX3_become 51 = .ok (.aload_n 0, 1) := by decide +kernel
theorem dX3_become_52 : decode cX3_become 52 = .ok (.dup, 1) := by decide +kernel
theorem dX3_become_53 : decode cX3_become 53 = .ok (.getfield 41, 3) := by decide +kernel
theorem dX3_become_56 : decode cX3_become 56 = .ok (.iconst 1, 1) := by decide +kernel
theorem dX3_become_57 : decode cX3_become 57 = .ok (.iadd, 1) := by decide +kernel
theorem dX3_become_58 : decode cX3_become 58 = .ok (.putfield 41, 3) := by decide +kernel
theorem dX3_become_61 : decode cX3_become 61 = .ok (.aload_n 0, 1) := by decide +kernel
theorem dX3_become_62 : decode cX3_become 62 = .ok (.iconst 0, 1) := by decide +kernel
theorem dX3_become_63 : decode cX3_become 63 = .ok (.putfield 24, 3) := by decide +kernel
theorem dX3_become_66 : decode cX3_become 66 = .ok (.iload_n 2, 1) := by decide +kernel
theorem dX3_become_67 : decode cX3_become 67 = .ok (.ireturn, 1) := by decide +kernel
set_option maxRecDepth 20000 in
theorem ggX3_readText_X3_readLine : GoodIn wsX3_readText wsX3_readLine := goodIn_r _ [8, 1, 9, 10, 11, 7, 12, 13, 14, 15, 16, 17, 18, 19, 3, 20, 21, 22, 23, 24, 25, 26, 27, 2, 28, 29, 30, 31, 32, 33, 34, 35, 36, 37, 38, 39, 40, 41, 42, 43, 44, 45, 46, 47, 48, 49, 50, 51, 52, 53, 54] (by decide +kernel) (by decide +kernel)
set_option maxRecDepth 20000 in
theorem gX3_readText_X3_readLine : GoodIn wsX3_readText (wsV RX3 44 RX3 yX3_readLine wsX3_readLine) := goodIn_app (goodIn_of _ (by decide +kernel)) ggX3_readText_X3_readLine
set_option maxRecDepth 20000 in
theorem ggX3_readText_X3_next : GoodIn wsX3_readText wsX3_next := goodIn_r _ [19, 1, 3, 20, 45, 46, 47, 48, 49, 50, 51, 52, 53, 54] (by decide +kernel) (by decide +kernel)
set_option maxRecDepth 20000 in
theorem gX3_readText_X3_next : GoodIn wsX3_readText (wsV RX3 47 RX3 yX3_next wsX3_next) := goodIn_app (goodIn_of _ (by decide +kernel)) ggX3_readText_X3_next
theorem dX3_readText_0 : decode cX3_readText 0 = .ok (.aload_n 0, 1) := by decide +kernel
theorem dX3_readText_1 : decode cX3_readText 1 = .ok (.iconst 0, 1) := by decide +kernel
theorem dX3_readText_2 : decode cX3_readText 2 = .ok (.putfield 32, 3) := by decide +kernel
theorem dX3_readText_5 : decode cX3_readText 5 = .ok (.aload_n 0, 1) := by decide +kernel
theorem dX3_readText_6 : decode cX3_readText 6 = .ok (.iconst 0, 1) := by decide +kernel
theorem dX3_readText_7 : decode cX3_readText 7 = .ok (.putfield 35, 3) := by decide +kernel
theorem dX3_readText_10 : decode cX3_readText 10 = .ok (.aload_n 0, 1) := by decide +kernel
theorem dX3_readText_11 : decode cX3_readText 11 = .ok (.invokevirtual 44, 3) := by decide +kernel
theorem dX3_readText_14 : decode cX3_readText 14 = .ok (.ifCond .ne 5, 3) := by decide +kernel
theorem dX3_readText_17 : decode cX3_readText 17 = .ok (.iconst 0, 1) := by decide +kernel
theorem dX3_readText_18 : decode cX3_readText 18 = .ok (.ireturn, 1) := by decide +kernel
theorem dX3_readText_19 : decode cX3_readText 19 = .ok (.iconst 1, 1) := by decide +kernel
theorem dX3_readText_20 : decode cX3_readText 20 = .ok (.istore_n 1, 1) := by decide +kernel
theorem dX3_readText_21 : decode cX3_readText 21 = .ok (.iload_n 1, 1) := by decide +kernel
theorem dX3_readText_22 : decode cX3_readText 22 = .ok (.bipush 120, 2) := by decide +kernel
theorem dX3_readText_24 : decode cX3_readText 24 = .ok (.if_icmp .ge 37, 3) := by decide +kernel
theorem dX3_readText_27 : decode cX3_readText 27 = .ok (.aload_n 0, 1) := by decide +kernel
theorem dX3_readText_28 : decode cX3_readText 28 = .ok (.invokevirtual 47, 3) := by decide +kernel
theorem dX3_readText_31 : decode cX3_readText 31 = .ok (.bipush 59, 2) := by decide +kernel
theorem dX3_readText_33 : decode cX3_readText 33 = .ok (.if_icmp .ne 28, 3) := by decide +kernel
theorem dX3_readText_36 : decode cX3_readText 36 = .ok (.aload_n 0, 1) := by decide +kernel
theorem dX3_readText_37 : decode cX3_readText 37 = .ok (.dup, 1) := by decide +kernel
theorem dX3_readText_38 : decode cX3_readText 38 = .ok (.getfield 32, 3) := by decide +kernel
theorem dX3_readText_41 : decode cX3_readText 41 = .ok (.iconst 1, 1) := by decide +kernel
theorem dX3_readText_42 : decode cX3_readText 42 = .ok (.iadd, 1) := by decide +kernel
theorem dX3_readText_43 : decode cX3_readText 43 = .ok (.putfield 32, 3) := by decide +kernel
theorem dX3_readText_46 : decode cX3_readText 46 = .ok (.aload_n 0, 1) := by decide +kernel
theorem dX3_readText_47 : decode cX3_readText 47 = .ok (.invokevirtual 44, 3) := by decide +kernel
theorem dX3_readText_50 : decode cX3_readText 50 = .ok (.ifCond .ne 5, 3) := by decide +kernel
theorem dX3_readText_53 : decode cX3_readText 53 = .ok (.iconst 0, 1) := by decide +kernel
theorem dX3_readText_54 : decode cX3_readText 54 = .ok (.ireturn, 1) := by decide +kernel
theorem dX3_readText_55 : decode cX3_readText 55 = .ok (.iinc 1 1, 3) := by decide +kernel
theorem dX3_readText_58 : decode cX3_readText 58 = .ok (.goto (-37), 3) := by decide +kernel
theorem dX3_readText_61 : decode cX3_readText 61 = .ok (.aload_n 0, 1) := by decide +kernel
theorem dX3_readText_62 : decode cX3_readText 62 = .ok (.getfield 32, 3) := by decide +kernel
theorem dX3_readText_65 : decode cX3_readText 65 = .ok (.aload_n 0, 1) := by decide +kernel
theorem dX3_readText_66 : decode cX3_readText 66 = .ok (.getfield 24, 3) := by decide +kernel
theorem dX3_readText_69 : decode cX3_readText 69 = .ok (.if_icmp .ne 7, 3) := by decide +kernel
theorem dX3_readText_72 : decode cX3_readText 72 = .ok (.iconst 1, 1) := by decide +kernel
theorem dX3_readText_73 : decode cX3_readText 73 = .ok (.goto 4, 3) := by decide +kernel
theorem dX3_readText_76 : decode cX3_readText 76 = .ok (.iconst 0, 1) := by decide +kernel
theorem dX3_readText_77 : decode cX3_readText 77 = .ok (.ireturn, 1) := by decide +kernel
set_option maxRecDepth 20000 in
theorem ggX3_readLine_X3_readJoined : GoodIn wsX3_readLine wsX3_readJoined := goodIn_r _ [6, 1, 7, 8, 9, 5, 2, 3, 4, 10, 11, 12, 13, 14, 15, 16, 17, 18, 19, 20, 21, 22, 23, 24, 25, 26, 27, 28, 29, 30, 31, 32, 33, 34, 35, 36, 37, 38, 39, 40, 41, 42, 43, 44, 45, 46, 47, 48, 49, 50] (by decide +kernel) (by decide +kernel)
set_option maxRecDepth 20000 in
theorem gX3_readLine_X3_readJoined : GoodIn wsX3_readLine (wsV RX3 51 RX3 yX3_readJoined wsX3_readJoined) := goodIn_app (goodIn_of _ (by decide +kernel)) ggX3_readLine_X3_readJoined
set_option maxRecDepth 20000 in
theorem ggX3_readLine_X3_next : GoodIn wsX3_readLine wsX3_next := goodIn_r _ [13, 1, 14, 15, 41, 42, 43, 44, 45, 46, 47, 48, 49, 50] (by decide +kernel) (by decide +kernel)
set_option maxRecDepth 20000 in
theorem gX3_readLine_X3_next : GoodIn wsX3_readLine (wsV RX3 47 RX3 yX3_next wsX3_next) := goodIn_app (goodIn_of _ (by decide +kernel)) ggX3_readLine_X3_next
set_option maxRecDepth 20000 in
theorem ggX3_readLine_X3_write : GoodIn wsX3_readLine wsX3_write := goodIn_r _ [22, 23, 24, 41, 42, 43, 44, 45, 46, 47, 48, 49, 50] (by decide +kernel) (by decide +kernel)
set_option maxRecDepth 20000 in
theorem gX3_readLine_X3_write : GoodIn wsX3_readLine (wsV RX3 55 RX3 yX3_write wsX3_write) := goodIn_app (goodIn_of _ (by decide +kernel)) ggX3_readLine_X3_write
theorem dX3_readLine_0 : decode cX3_readLine 0 = .ok (.aload_n 0, 1) := by decide +kernel
theorem dX3_readLine_1 : decode cX3_readLine 1 = .ok (.iconst 0, 1) := by decide +kernel
theorem dX3_readLine_2 : decode cX3_readLine 2 = .ok (.iconst 0, 1) := by decide +kernel
theorem dX3_readLine_3 : decode cX3_readLine 3 = .ok (.invokevirtual 51, 3) := by decide +kernel
theorem dX3_readLine_6 : decode cX3_readLine 6 = .ok (.ifCond .ne 5, 3) := by decide +kernel
theorem dX3_readLine_9 : decode cX3_readLine 9 = .ok (.iconst 0, 1) := by decide +kernel
theorem dX3_readLine_10 : decode cX3_readLine 10 = .ok (.ireturn, 1) := by decide +kernel
theorem dX3_readLine_11 : decode cX3_readLine 11 = .ok (.aload_n 0, 1) := by decide +kernel
theorem dX3_readLine_12 : decode cX3_readLine 12 = .ok (.invokevirtual 47, 3) := by decide +kernel
theorem dX3_readLine_15 : decode cX3_readLine 15 = .ok (.bipush 63, 2) := by decide +kernel
theorem dX3_readLine_17 : decode cX3_readLine 17 = .ok (.if_icmp .ne 30, 3) := by decide +kernel
theorem dX3_readLine_20 : decode cX3_readLine 20 = .ok (.aload_n 0, 1) := by decide +kernel
theorem dX3_readLine_21 : decode cX3_readLine 21 = .ok (.dup, 1) := by decide +kernel
theorem dX3_readLine_22 : decode cX3_readLine 22 = .ok (.getfield 32, 3) := by decide +kernel
theorem dX3_readLine_25 : decode cX3_readLine 25 = .ok (.iconst 1, 1) := by decide +kernel
theorem dX3_readLine_26 : decode cX3_readLine 26 = .ok (.iadd, 1) := by decide +kernel
theorem dX3_readLine_27 : decode cX3_readLine 27 = .ok (.putfield 32, 3) := by decide +kernel
theorem dX3_readLine_30 : decode cX3_readLine 30 = .ok (.aload_n 0, 1) := by decide +kernel
theorem dX3_readLine_31 : decode cX3_readLine 31 = .ok (.bipush (-63), 2) := by decide +kernel
theorem dX3_readLine_33 : decode cX3_readLine 33 = .ok (.invokevirtual 55, 3) := by decide +kernel
theorem dX3_readLine_36 : decode cX3_readLine 36 = .ok (.aload_n 0, 1) := by decide +kernel
theorem dX3_readLine_37 : decode cX3_readLine 37 = .ok (.iconst 0, 1) := by decide +kernel
theorem dX3_readLine_38 : decode cX3_readLine 38 = .ok (.iconst 0, 1) := by decide +kernel
theorem dX3_readLine_39 : decode cX3_readLine 39 = .ok (.invokevirtual 51, 3) := by decide +kernel
theorem dX3_readLine_42 : decode cX3_readLine 42 = .ok (.ifCond .ne 5, 3) := by decide +kernel
theorem dX3_readLine_45 : decode cX3_readLine 45 = .ok (.iconst 0, 1) := by decide +kernel
theorem dX3_readLine_46 : decode cX3_readLine 46 = .ok (.ireturn, 1) := by decide +kernel
theorem dX3_readLine_47 : decode cX3_readLine 47 = .ok (.aload_n 0, 1) := by decide +kernel
theorem dX3_readLine_48 : decode cX3_readLine 48 = .ok (.bipush (-59), 2) := by decide +kernel
theorem dX3_readLine_50 : decode cX3_readLine 50 = .ok (.invokevirtual 55, 3) := by decide +kernel
theorem dX3_readLine_53 : decode cX3_readLine 53 = .ok (.iconst 1, 1) := by decide +kernel
theorem dX3_readLine_54 : decode cX3_readLine 54 = .ok (.ireturn, 1) := by decide +kernel
set_option maxRecDepth 20000 in
theorem ggX3_readJoined_X3_readOperand : GoodIn wsX3_readJoined wsX3_readOperand := goodIn_r _ [25, 1, 9, 10, 11, 5, 12, 13, 14, 26, 27, 28, 29, 30, 31, 32, 18, 19, 20, 21, 22, 23, 33, 34, 35, 36, 37, 38, 24, 6, 7, 8, 0, 2, 3, 4, 15, 16, 17, 39, 40, 41, 42, 43, 44, 45, 46, 47, 48, 49] (by decide +kernel) (by decide +kernel)
set_option maxRecDepth 20000 in
theorem gX3_readJoined_X3_readOperand : GoodIn wsX3_readJoined (wsV RX3 59 RX3 yX3_readOperand wsX3_readOperand) := goodIn_app (goodIn_of _ (by decide +kernel)) ggX3_readJoined_X3_readOperand
set_option maxRecDepth 20000 in
theorem ggX3_readJoined_X3_readJoined : GoodIn wsX3_readJoined wsX3_readJoined := goodIn_r _ [0, 1, 2, 3, 4, 5, 6, 7, 8, 9, 10, 11, 12, 13, 14, 15, 16, 17, 18, 19, 20, 21, 22, 23, 24, 25, 26, 27, 28, 29, 30, 31, 32, 33, 34, 35, 36, 37, 38, 39, 40, 41, 42, 43, 44, 45, 46, 47, 48, 49] (by decide +kernel) (by decide +kernel)
set_option maxRecDepth 20000 in
theorem gX3_readJoined_X3_readJoined : GoodIn wsX3_readJoined (wsV RX3 51 RX3 yX3_readJoined wsX3_readJoined) := goodIn_app (goodIn_of _ (by decide +kernel)) ggX3_readJoined_X3_readJoined
set_option maxRecDepth 20000 in
theorem ggX3_readJoined_X3_next : GoodIn wsX3_readJoined wsX3_next := goodIn_r _ [12, 1, 13, 14, 40, 41, 42, 43, 44, 45, 46, 47, 48, 49] (by decide +kernel) (by decide +kernel)
set_option maxRecDepth 20000 in
theorem gX3_readJoined_X3_next : GoodIn wsX3_readJoined (wsV RX3 47 RX3 yX3_next wsX3_next) := goodIn_app (goodIn_of _ (by decide +kernel)) ggX3_readJoined_X3_next
set_option maxRecDepth 20000 in
theorem ggX3_readJoined_X3_rankOf : GoodIn wsX3_readJoined wsX3_rankOf := goodIn_r _ [17] (by decide +kernel) (by decide +kernel)
set_option maxRecDepth 20000 in
theorem gX3_readJoined_X3_rankOf : GoodIn wsX3_readJoined (va_wsS RX3 63 yX3_rankOf wsX3_rankOf) := goodIn_app (goodIn_of _ (by decide +kernel)) ggX3_readJoined_X3_rankOf
set_option maxRecDepth 20000 in
theorem ggX3_readJoined_X3_write : GoodIn wsX3_readJoined wsX3_write := goodIn_r _ [21, 22, 23, 40, 41, 42, 43, 44, 45, 46, 47, 48, 49] (by decide +kernel) (by decide +kernel)
set_option maxRecDepth 20000 in
theorem gX3_readJoined_X3_write : GoodIn wsX3_readJoined (wsV RX3 55 RX3 yX3_write wsX3_write) := goodIn_app (goodIn_of _ (by decide +kernel)) ggX3_readJoined_X3_write
theorem dX3_readJoined_0 : decode cX3_readJoined 0 = .ok (.iload_n 1, 1) := by decide +kernel
theorem dX3_readJoined_1 : decode cX3_readJoined 1 = .ok (.iconst 4, 1) := by decide +kernel
theorem dX3_readJoined_2 : decode cX3_readJoined 2 = .ok (.if_icmp .le 9, 3) := by decide +kernel
theorem dX3_readJoined_5 : decode cX3_readJoined 5 = .ok (.aload_n 0, 1) := by decide +kernel
theorem dX3_readJoined_6 : decode cX3_readJoined 6 = .ok (.iload_n 2, 1) := by decide +kernel
theorem dX3_readJoined_7 : decode cX3_readJoined 7 = .ok (.invokevirtual 59, 3) := by decide +kernel
theorem dX3_readJoined_10 : decode cX3_readJoined 10 = .ok (.ireturn, 1) := by decide +kernel
theorem dX3_readJoined_11 : decode cX3_readJoined 11 = .ok (.aload_n 0, 1) := by decide +kernel
theorem dX3_readJoined_12 : decode cX3_readJoined 12 = .ok (.iload_n 1, 1) := by decide +kernel
theorem dX3_readJoined_13 : decode cX3_readJoined 13 = .ok (.iconst 1, 1) := by decide +kernel
theorem dX3_readJoined_14 : decode cX3_readJoined 14 = .ok (.iadd, 1) := by decide +kernel
theorem dX3_readJoined_15 : decode cX3_readJoined 15 = .ok (.iload_n 2, 1) := by decide +kernel
theorem dX3_readJoined_16 : decode cX3_readJoined 16 = .ok (.invokevirtual 51, 3) := by decide +kernel
theorem dX3_readJoined_19 : decode cX3_readJoined 19 = .ok (.ifCond .ne 5, 3) := by decide +kernel
theorem dX3_readJoined_22 : decode cX3_readJoined 22 = .ok (.iconst 0, 1) := by decide +kernel
theorem dX3_readJoined_23 : decode cX3_readJoined 23 = .ok (.ireturn, 1) := by decide +kernel
theorem dX3_readJoined_24 : decode cX3_readJoined 24 = .ok (.iload_n 1, 1) := by decide +kernel
theorem dX3_readJoined_25 : decode cX3_readJoined 25 = .ok (.iconst 2, 1) := by decide +kernel
theorem dX3_readJoined_26 : decode cX3_readJoined 26 = .ok (.if_icmp .ne 7, 3) := by decide +kernel
theorem dX3_readJoined_29 : decode cX3_readJoined 29 = .ok (.iconst 1, 1) := by decide +kernel
theorem dX3_readJoined_30 : decode cX3_readJoined 30 = .ok (.goto 5, 3) := by decide +kernel
theorem dX3_readJoined_33 : decode cX3_readJoined 33 = .ok (.bipush 120, 2) := by decide +kernel
theorem dX3_readJoined_35 : decode cX3_readJoined 35 = .ok (.istore_n 3, 1) := by decide +kernel
theorem dX3_readJoined_36 : decode cX3_readJoined 36 = .ok (.iconst 0, 1) := by decide +kernel
theorem dX3_readJoined_37 : decode cX3_readJoined 37 = .ok (.istore 4, 2) := by decide +kernel
theorem dX3_readJoined_39 : decode cX3_readJoined 39 = .ok (.iload 4, 2) := by decide +kernel
theorem dX3_readJoined_41 : decode cX3_readJoined 41 = .ok (.iload_n 3, 1) := by decide +kernel
theorem dX3_readJoined_42 : decode cX3_readJoined 42 = .ok (.if_icmp .ge 56, 3) := by decide +kernel
theorem dX3_readJoined_45 : decode cX3_readJoined 45 = .ok (.aload_n 0, 1) := by decide +kernel
theorem dX3_readJoined_46 : decode cX3_readJoined 46 = .ok (.invokevirtual 47, 3) := by decide +kernel
theorem dX3_readJoined_49 : decode cX3_readJoined 49 = .ok (.invokestatic 63, 3) := by decide +kernel
theorem dX3_readJoined_52 : decode cX3_readJoined 52 = .ok (.iload_n 1, 1) := by decide +kernel
theorem dX3_readJoined_53 : decode cX3_readJoined 53 = .ok (.if_icmp .ne 45, 3) := by decide +kernel
theorem dX3_readJoined_56 : decode cX3_readJoined 56 = .ok (.aload_n 0, 1) := by decide +kernel
theorem dX3_readJoined_57 : decode cX3_readJoined 57 = .ok (.invokevirtual 47, 3) := by decide +kernel
theorem dX3_readJoined_60 : decode cX3_readJoined 60 = .ok (.istore 5, 2) := by decide +kernel
theorem dX3_readJoined_62 : decode cX3_readJoined 62 = .ok (.aload_n 0, 1) := by decide +kernel
theorem dX3_readJoined_63 : decode cX3_readJoined 63 = .ok (.dup, 1) := by decide +kernel
theorem dX3_readJoined_64 : decode cX3_readJoined 64 = .ok (.getfield 32, 3) := by decide +kernel
theorem dX3_readJoined_67 : decode cX3_readJoined 67 = .ok (.iconst 1, 1) := by decide +kernel
theorem dX3_readJoined_68 : decode cX3_readJoined 68 = .ok (.iadd, 1) := by decide +kernel
theorem dX3_readJoined_69 : decode cX3_readJoined 69 = .ok (.putfield 32, 3) := by decide +kernel
theorem dX3_readJoined_72 : decode cX3_readJoined 72 = .ok (.aload_n 0, 1) := by decide +kernel
theorem dX3_readJoined_73 : decode cX3_readJoined 73 = .ok (.iload_n 1, 1) := by decide +kernel
theorem dX3_readJoined_74 : decode cX3_readJoined 74 = .ok (.iconst 1, 1) := by decide +kernel
theorem dX3_readJoined_75 : decode cX3_readJoined 75 = .ok (.iadd, 1) := by decide +kernel
theorem dX3_readJoined_76 : decode cX3_readJoined 76 = .ok (.iload_n 2, 1) := by decide +kernel
theorem dX3_readJoined_77 : decode cX3_readJoined 77 = .ok (.invokevirtual 51, 3) := by decide +kernel
theorem dX3_readJoined_80 : decode cX3_readJoined 80 = .ok (.ifCond .ne 5, 3) := by decide +kernel
theorem dX3_readJoined_83 : decode cX3_readJoined 83 = .ok (.iconst 0, 1) := by decide +kernel
theorem dX3_readJoined_84 : decode cX3_readJoined 84 = .ok (.ireturn, 1) := by decide +kernel
theorem dX3_readJoined_85 : decode cX3_readJoined 85 = .ok (.aload_n 0, 1) := by decide +kernel
theorem dX3_readJoined_86 : decode cX3_readJoined 86 = .ok (.iload 5, 2) := by decide +kernel
theorem dX3_readJoined_88 : decode cX3_readJoined 88 = .ok (.ineg, 1) := by decide +kernel
theorem dX3_readJoined_89 : decode cX3_readJoined 89 = .ok (.invokevirtual 55, 3) := by decide +kernel
theorem dX3_readJoined_92 : decode cX3_readJoined 92 = .ok (.iinc 4 1, 3) := by decide +kernel
theorem dX3_readJoined_95 : decode cX3_readJoined 95 = .ok (.goto (-56), 3) := by decide +kernel
theorem dX3_readJoined_98 : decode cX3_readJoined 98 = .ok (.iconst 1, 1) := by decide +kernel
theorem dX3_readJoined_99 : decode cX3_readJoined 99 = .ok (.ireturn, 1) := by decide +kernel
set_option maxRecDepth 20000 in
theorem ggX3_readOperand_X3_next : GoodIn wsX3_readOperand wsX3_next := goodIn_r _ [6, 1, 7, 8, 40, 41, 42, 43, 44, 45, 46, 47, 48, 49] (by decide +kernel) (by decide +kernel)
set_option maxRecDepth 20000 in
theorem gX3_readOperand_X3_next : GoodIn wsX3_readOperand (wsV RX3 47 RX3 yX3_next wsX3_next) := goodIn_app (goodIn_of _ (by decide +kernel)) ggX3_readOperand_X3_next
set_option maxRecDepth 20000 in
theorem ggX3_readOperand_X3_isDigit : GoodIn wsX3_readOperand wsX3_isDigit := goodIn_r _ [11] (by decide +kernel) (by decide +kernel)
set_option maxRecDepth 20000 in
theorem gX3_readOperand_X3_isDigit : GoodIn wsX3_readOperand (va_wsS RX3 67 yX3_isDigit wsX3_isDigit) := goodIn_app (goodIn_of _ (by decide +kernel)) ggX3_readOperand_X3_isDigit
set_option maxRecDepth 20000 in
theorem ggX3_readOperand_X3_readNumber : GoodIn wsX3_readOperand wsX3_readNumber := goodIn_r _ [15, 1, 2, 3, 4, 5, 6, 7, 8, 9, 10, 11, 16, 17, 18, 19, 20, 21, 40, 41, 42, 43, 44, 45, 46, 47, 48, 49] (by decide +kernel) (by decide +kernel)
set_option maxRecDepth 20000 in
theorem gX3_readOperand_X3_readNumber : GoodIn wsX3_readOperand (wsV RX3 70 RX3 yX3_readNumber wsX3_readNumber) := goodIn_app (goodIn_of _ (by decide +kernel)) ggX3_readOperand_X3_readNumber
set_option maxRecDepth 20000 in
theorem ggX3_readOperand_X3_write : GoodIn wsX3_readOperand wsX3_write := goodIn_r _ [19, 20, 21, 40, 41, 42, 43, 44, 45, 46, 47, 48, 49] (by decide +kernel) (by decide +kernel)
set_option maxRecDepth 20000 in
theorem gX3_readOperand_X3_write : GoodIn wsX3_readOperand (wsV RX3 55 RX3 yX3_write wsX3_write) := goodIn_app (goodIn_of _ (by decide +kernel)) ggX3_readOperand_X3_write
set_option maxRecDepth 20000 in
theorem ggX3_readOperand_X3_readEnclosed : GoodIn wsX3_readOperand wsX3_readEnclosed := goodIn_r _ [28, 1, 29, 30, 31, 5, 2, 3, 4, 6, 7, 8, 32, 33, 34, 35, 36, 37, 38, 16, 17, 18, 19, 20, 21, 0, 9, 10, 11, 12, 13, 14, 15, 22, 23, 24, 25, 26, 27, 39, 40, 41, 42, 43, 44, 45, 46, 47, 48, 49] (by decide +kernel) (by decide +kernel)
set_option maxRecDepth 20000 in
theorem gX3_readOperand_X3_readEnclosed : GoodIn wsX3_readOperand (wsV RX3 73 RX3 yX3_readEnclosed wsX3_readEnclosed) := goodIn_app (goodIn_of _ (by decide +kernel)) ggX3_readOperand_X3_readEnclosed
set_option maxRecDepth 20000 in
theorem ggX3_readOperand_X3_readTurned : GoodIn wsX3_readOperand wsX3_readTurned := goodIn_r _ [39, 33, 34, 35, 5, 16, 17, 18, 19, 20, 21, 28, 1, 29, 30, 31, 2, 3, 4, 6, 7, 8, 32, 36, 37, 38, 0, 9, 10, 11, 12, 13, 14, 15, 22, 23, 24, 25, 26, 27, 40, 41, 42, 43, 44, 45, 46, 47, 48, 49] (by decide +kernel) (by decide +kernel)
set_option maxRecDepth 20000 in
theorem gX3_readOperand_X3_readTurned : GoodIn wsX3_readOperand (wsV RX3 76 RX3 yX3_readTurned wsX3_readTurned) := goodIn_app (goodIn_of _ (by decide +kernel)) ggX3_readOperand_X3_readTurned
theorem dX3_readOperand_0 : decode cX3_readOperand 0 = .ok (.aload_n 0, 1) := by decide +kernel
theorem dX3_readOperand_1 : decode cX3_readOperand 1 = .ok (.invokevirtual 47, 3) := by decide +kernel
theorem dX3_readOperand_4 : decode cX3_readOperand 4 = .ok (.istore_n 2, 1) := by decide +kernel
theorem dX3_readOperand_5 : decode cX3_readOperand 5 = .ok (.iload_n 2, 1) := by decide +kernel
theorem dX3_readOperand_6 : decode cX3_readOperand 6 = .ok (.invokestatic 67, 3) := by decide +kernel
theorem dX3_readOperand_9 : decode cX3_readOperand 9 = .ok (.ifCond .eq 9, 3) := by decide +kernel
theorem dX3_readOperand_12 : decode cX3_readOperand 12 = .ok (.aload_n 0, 1) := by decide +kernel
theorem dX3_readOperand_13 : decode cX3_readOperand 13 = .ok (.invokevirtual 70, 3) := by decide +kernel
theorem dX3_readOperand_16 : decode cX3_readOperand 16 = .ok (.iconst 1, 1) := by decide +kernel
theorem dX3_readOperand_17 : decode cX3_readOperand 17 = .ok (.ireturn, 1) := by decide +kernel
theorem dX3_readOperand_18 : decode cX3_readOperand 18 = .ok (.iload_n 2, 1) := by decide +kernel
theorem dX3_readOperand_19 : decode cX3_readOperand 19 = .ok (.bipush 104, 2) := by decide +kernel
theorem dX3_readOperand_21 : decode cX3_readOperand 21 = .ok (.if_icmp .eq 15, 3) := by decide +kernel
theorem dX3_readOperand_24 : decode cX3_readOperand 24 = .ok (.iload_n 2, 1) := by decide +kernel
theorem dX3_readOperand_25 : decode cX3_readOperand 25 = .ok (.bipush 110, 2) := by decide +kernel
theorem dX3_readOperand_27 : decode cX3_readOperand 27 = .ok (.if_icmp .eq 9, 3) := by decide +kernel
theorem dX3_readOperand_30 : decode cX3_readOperand 30 = .ok (.iload_n 2, 1) := by decide +kernel
theorem dX3_readOperand_31 : decode cX3_readOperand 31 = .ok (.bipush 106, 2) := by decide +kernel
theorem dX3_readOperand_33 : decode cX3_readOperand 33 = .ok (.if_icmp .ne 42, 3) := by decide +kernel
theorem dX3_readOperand_36 : decode cX3_readOperand 36 = .ok (.aload_n 0, 1) := by decide +kernel
theorem dX3_readOperand_37 : decode cX3_readOperand 37 = .ok (.dup, 1) := by decide +kernel
theorem dX3_readOperand_38 : decode cX3_readOperand 38 = .ok (.getfield 32, 3) := by decide +kernel
theorem dX3_readOperand_41 : decode cX3_readOperand 41 = .ok (.iconst 1, 1) := by decide +kernel
theorem dX3_readOperand_42 : decode cX3_readOperand 42 = .ok (.iadd, 1) := by decide +kernel
theorem dX3_readOperand_43 : decode cX3_readOperand 43 = .ok (.putfield 32, 3) := by decide +kernel
theorem dX3_readOperand_46 : decode cX3_readOperand 46 = .ok (.aload_n 0, 1) := by decide +kernel
theorem dX3_readOperand_47 : decode cX3_readOperand 47 = .ok (.iload_n 2, 1) := by decide +kernel
theorem dX3_readOperand_48 : decode cX3_readOperand 48 = .ok (.bipush 104, 2) := by decide +kernel
theorem dX3_readOperand_50 : decode cX3_readOperand 50 = .ok (.if_icmp .ne 7, 3) := by decide +kernel
theorem dX3_readOperand_53 : decode cX3_readOperand 53 = .ok (.iconst (-1), 1) := by decide +kernel
theorem dX3_readOperand_54 : decode cX3_readOperand 54 = .ok (.goto 16, 3) := by decide +kernel
theorem dX3_readOperand_57 : decode cX3_readOperand 57 = .ok (.iload_n 2, 1) := by decide +kernel
theorem dX3_readOperand_58 : decode cX3_readOperand 58 = .ok (.bipush 110, 2) := by decide +kernel
theorem dX3_readOperand_60 : decode cX3_readOperand 60 = .ok (.if_icmp .ne 8, 3) := by decide +kernel
theorem dX3_readOperand_63 : decode cX3_readOperand 63 = .ok (.bipush (-2), 2) := by decide +kernel
theorem dX3_readOperand_65 : decode cX3_readOperand 65 = .ok (.goto 5, 3) := by decide +kernel
theorem dX3_readOperand_68 : decode cX3_readOperand 68 = .ok (.bipush (-3), 2) := by decide +kernel
theorem dX3_readOperand_70 : decode cX3_readOperand 70 = .ok (.invokevirtual 55, 3) := by decide +kernel
theorem dX3_readOperand_73 : decode cX3_readOperand 73 = .ok (.iconst 1, 1) := by decide +kernel
theorem dX3_readOperand_74 : decode cX3_readOperand 74 = .ok (.ireturn, 1) := by decide +kernel
theorem dX3_readOperand_75 : decode cX3_readOperand 75 = .ok (.iload_n 2, 1) := by decide +kernel
theorem dX3_readOperand_76 : decode cX3_readOperand 76 = .ok (.bipush 40, 2) := by decide +kernel
theorem dX3_readOperand_78 : decode cX3_readOperand 78 = .ok (.if_icmp .eq 15, 3) := by decide +kernel
theorem dX3_readOperand_81 : decode cX3_readOperand 81 = .ok (.iload_n 2, 1) := by decide +kernel
theorem dX3_readOperand_82 : decode cX3_readOperand 82 = .ok (.bipush 33, 2) := by decide +kernel
theorem dX3_readOperand_84 : decode cX3_readOperand 84 = .ok (.if_icmp .eq 9, 3) := by decide +kernel
theorem dX3_readOperand_87 : decode cX3_readOperand 87 = .ok (.iload_n 2, 1) := by decide +kernel
theorem dX3_readOperand_88 : decode cX3_readOperand 88 = .ok (.bipush 45, 2) := by decide +kernel
theorem dX3_readOperand_90 : decode cX3_readOperand 90 = .ok (.if_icmp .ne 9, 3) := by decide +kernel
theorem dX3_readOperand_93 : decode cX3_readOperand 93 = .ok (.iload_n 1, 1) := by decide +kernel
theorem dX3_readOperand_94 : decode cX3_readOperand 94 = .ok (.bipush 6, 2) := by decide +kernel
theorem dX3_readOperand_96 : decode cX3_readOperand 96 = .ok (.if_icmp .lt 5, 3) := by decide +kernel
theorem dX3_readOperand_99 : decode cX3_readOperand 99 = .ok (.iconst 0, 1) := by decide +kernel
theorem dX3_readOperand_100 : decode cX3_readOperand 100 = .ok (.ireturn, 1) := by decide +kernel
theorem dX3_readOperand_101 : decode cX3_readOperand 101 = .ok (.aload_n 0, 1) := by decide +kernel
theorem dX3_readOperand_102 : decode cX3_readOperand 102 = .ok (.dup, 1) := by decide +kernel
theorem dX3_readOperand_103 : decode cX3_readOperand 103 = .ok (.getfield 32, 3) := by decide +kernel
theorem dX3_readOperand_106 : decode cX3_readOperand 106 = .ok (.iconst 1, 1) := by decide +kernel
theorem dX3_readOperand_107 : decode cX3_readOperand 107 = .ok (.iadd, 1) := by decide +kernel
theorem dX3_readOperand_108 : decode cX3_readOperand 108 = .ok (.putfield 32, 3) := by decide +kernel
theorem dX3_readOperand_111 : decode cX3_readOperand 111 = .ok (.iload_n 2, 1) := by decide +kernel
theorem dX3_readOperand_112 : decode cX3_readOperand 112 = .ok (.bipush 40, 2) := by decide +kernel
theorem dX3_readOperand_114 : decode cX3_readOperand 114 = .ok (.if_icmp .ne 13, 3) := by decide +kernel
theorem dX3_readOperand_117 : decode cX3_readOperand 117 = .ok (.aload_n 0, 1) := by decide +kernel
theorem dX3_readOperand_118 : decode cX3_readOperand 118 = .ok (.iload_n 1, 1) := by decide +kernel
theorem dX3_readOperand_119 : decode cX3_readOperand 119 = .ok (.iconst 1, 1) := by decide +kernel
theorem dX3_readOperand_120 : decode cX3_readOperand 120 = .ok (.iadd, 1) := by decide +kernel
theorem dX3_readOperand_121 : decode cX3_readOperand 121 = .ok (.invokevirtual 73, 3) := by decide +kernel
theorem dX3_readOperand_124 : decode cX3_readOperand 124 = .ok (.goto 11, 3) := by decide +kernel
theorem dX3_readOperand_127 : decode cX3_readOperand 127 = .ok (.aload_n 0, 1) := by decide +kernel
theorem dX3_readOperand_128 : decode cX3_readOperand 128 = .ok (.iload_n 2, 1) := by decide +kernel
theorem dX3_readOperand_129 : decode cX3_readOperand 129 = .ok (.iload_n 1, 1) := by decide +kernel
theorem dX3_readOperand_130 : decode cX3_readOperand 130 = .ok (.iconst 1, 1) := by decide +kernel
theorem dX3_readOperand_131 : decode cX3_readOperand 131 = .ok (.iadd, 1) := by decide +kernel
theorem dX3_readOperand_132 : decode cX3_readOperand 132 = .ok (.invokevirtual 76, 3) := by decide +kernel
theorem dX3_readOperand_135 : decode cX3_readOperand 135 = .ok (.ireturn, 1) := by decide +kernel
set_option maxRecDepth 20000 in
theorem ggX3_readEnclosed_X3_readJoined : GoodIn wsX3_readEnclosed wsX3_readJoined := goodIn_r _ [12, 1, 13, 14, 15, 5, 2, 3, 4, 6, 7, 8, 9, 10, 11, 16, 17, 18, 19, 20, 21, 22, 23, 24, 0, 25, 26, 27, 28, 29, 30, 31, 32, 33, 34, 35, 36, 37, 38, 39, 40, 41, 42, 43, 44, 45, 46, 47, 48, 49] (by decide +kernel) (by decide +kernel)
set_option maxRecDepth 20000 in
theorem gX3_readEnclosed_X3_readJoined : GoodIn wsX3_readEnclosed (wsV RX3 51 RX3 yX3_readJoined wsX3_readJoined) := goodIn_app (goodIn_of _ (by decide +kernel)) ggX3_readEnclosed_X3_readJoined
set_option maxRecDepth 20000 in
theorem ggX3_readEnclosed_X3_next : GoodIn wsX3_readEnclosed wsX3_next := goodIn_r _ [9, 1, 10, 11, 40, 41, 42, 43, 44, 45, 46, 47, 48, 49] (by decide +kernel) (by decide +kernel)
set_option maxRecDepth 20000 in
theorem gX3_readEnclosed_X3_next : GoodIn wsX3_readEnclosed (wsV RX3 47 RX3 yX3_next wsX3_next) := goodIn_app (goodIn_of _ (by decide +kernel)) ggX3_readEnclosed_X3_next
theorem dX3_readEnclosed_0 : decode cX3_readEnclosed 0 = .ok (.iload_n 1, 1) := by decide +kernel
theorem dX3_readEnclosed_1 : decode cX3_readEnclosed 1 = .ok (.bipush 6, 2) := by decide +kernel
theorem dX3_readEnclosed_3 : decode cX3_readEnclosed 3 = .ok (.if_icmp .gt 21, 3) := by decide +kernel
theorem dX3_readEnclosed_6 : decode cX3_readEnclosed 6 = .ok (.aload_n 0, 1) := by decide +kernel
theorem dX3_readEnclosed_7 : decode cX3_readEnclosed 7 = .ok (.iconst 0, 1) := by decide +kernel
theorem dX3_readEnclosed_8 : decode cX3_readEnclosed 8 = .ok (.iload_n 1, 1) := by decide +kernel
theorem dX3_readEnclosed_9 : decode cX3_readEnclosed 9 = .ok (.invokevirtual 51, 3) := by decide +kernel
theorem dX3_readEnclosed_12 : decode cX3_readEnclosed 12 = .ok (.ifCond .eq 12, 3) := by decide +kernel
theorem dX3_readEnclosed_15 : decode cX3_readEnclosed 15 = .ok (.aload_n 0, 1) := by decide +kernel
theorem dX3_readEnclosed_16 : decode cX3_readEnclosed 16 = .ok (.invokevirtual 47, 3) := by decide +kernel
theorem dX3_readEnclosed_19 : decode cX3_readEnclosed 19 = .ok (.bipush 41, 2) := by decide +kernel
theorem dX3_readEnclosed_21 : decode cX3_readEnclosed 21 = .ok (.if_icmp .eq 5, 3) := by decide +kernel
theorem dX3_readEnclosed_24 : decode cX3_readEnclosed 24 = .ok (.iconst 0, 1) := by decide +kernel
theorem dX3_readEnclosed_25 : decode cX3_readEnclosed 25 = .ok (.ireturn, 1) := by decide +kernel
theorem dX3_readEnclosed_26 : decode cX3_readEnclosed 26 = .ok (.aload_n 0, 1) := by decide +kernel
theorem dX3_readEnclosed_27 : decode cX3_readEnclosed 27 = .ok (.dup, 1) := by decide +kernel
theorem dX3_readEnclosed_28 : decode cX3_readEnclosed 28 = .ok (.getfield 32, 3) := by decide +kernel
theorem dX3_readEnclosed_31 : decode cX3_readEnclosed 31 = .ok (.iconst 1, 1) := by decide +kernel
theorem dX3_readEnclosed_32 : decode cX3_readEnclosed 32 = .ok (.iadd, 1) := by decide +kernel
theorem dX3_readEnclosed_33 : decode cX3_readEnclosed 33 = .ok (.putfield 32, 3) := by decide +kernel
theorem dX3_readEnclosed_36 : decode cX3_readEnclosed 36 = .ok (.iconst 1, 1) := by decide +kernel
theorem dX3_readEnclosed_37 : decode cX3_readEnclosed 37 = .ok (.ireturn, 1) := by decide +kernel
set_option maxRecDepth 20000 in
theorem ggX3_readTurned_X3_readOperand : GoodIn wsX3_readTurned wsX3_readOperand := goodIn_r _ [26, 12, 16, 17, 18, 4, 19, 20, 21, 27, 28, 29, 30, 31, 32, 33, 5, 6, 7, 8, 9, 10, 34, 35, 36, 37, 38, 39, 11, 13, 14, 15, 22, 1, 2, 3, 23, 24, 25, 0, 40, 41, 42, 43, 44, 45, 46, 47, 48, 49] (by decide +kernel) (by decide +kernel)
set_option maxRecDepth 20000 in
theorem gX3_readTurned_X3_readOperand : GoodIn wsX3_readTurned (wsV RX3 59 RX3 yX3_readOperand wsX3_readOperand) := goodIn_app (goodIn_of _ (by decide +kernel)) ggX3_readTurned_X3_readOperand
set_option maxRecDepth 20000 in
theorem ggX3_readTurned_X3_write : GoodIn wsX3_readTurned wsX3_write := goodIn_r _ [8, 9, 10, 40, 41, 42, 43, 44, 45, 46, 47, 48, 49] (by decide +kernel) (by decide +kernel)
set_option maxRecDepth 20000 in
theorem gX3_readTurned_X3_write : GoodIn wsX3_readTurned (wsV RX3 55 RX3 yX3_write wsX3_write) := goodIn_app (goodIn_of _ (by decide +kernel)) ggX3_readTurned_X3_write
theorem dX3_readTurned_0 : decode cX3_readTurned 0 = .ok (.iload_n 2, 1) := by decide +kernel
theorem dX3_readTurned_1 : decode cX3_readTurned 1 = .ok (.bipush 6, 2) := by decide +kernel
theorem dX3_readTurned_3 : decode cX3_readTurned 3 = .ok (.if_icmp .gt 11, 3) := by decide +kernel
theorem dX3_readTurned_6 : decode cX3_readTurned 6 = .ok (.aload_n 0, 1) := by decide +kernel
theorem dX3_readTurned_7 : decode cX3_readTurned 7 = .ok (.iload_n 2, 1) := by decide +kernel
theorem dX3_readTurned_8 : decode cX3_readTurned 8 = .ok (.invokevirtual 59, 3) := by decide +kernel
theorem dX3_readTurned_11 : decode cX3_readTurned 11 = .ok (.ifCond .ne 5, 3) := by decide +kernel
theorem dX3_readTurned_14 : decode cX3_readTurned 14 = .ok (.iconst 0, 1) := by decide +kernel
theorem dX3_readTurned_15 : decode cX3_readTurned 15 = .ok (.ireturn, 1) := by decide +kernel
theorem dX3_readTurned_16 : decode cX3_readTurned 16 = .ok (.aload_n 0, 1) := by decide +kernel
theorem dX3_readTurned_17 : decode cX3_readTurned 17 = .ok (.iload_n 1, 1) := by decide +kernel
theorem dX3_readTurned_18 : decode cX3_readTurned 18 = .ok (.bipush 33, 2) := by decide +kernel
theorem dX3_readTurned_20 : decode cX3_readTurned 20 = .ok (.if_icmp .ne 8, 3) := by decide +kernel
theorem dX3_readTurned_23 : decode cX3_readTurned 23 = .ok (.bipush (-33), 2) := by decide +kernel
theorem dX3_readTurned_25 : decode cX3_readTurned 25 = .ok (.goto 5, 3) := by decide +kernel
theorem dX3_readTurned_28 : decode cX3_readTurned 28 = .ok (.bipush (-4), 2) := by decide +kernel
theorem dX3_readTurned_30 : decode cX3_readTurned 30 = .ok (.invokevirtual 55, 3) := by decide +kernel
theorem dX3_readTurned_33 : decode cX3_readTurned 33 = .ok (.iconst 1, 1) := by decide +kernel
theorem dX3_readTurned_34 : decode cX3_readTurned 34 = .ok (.ireturn, 1) := by decide +kernel
set_option maxRecDepth 20000 in
theorem ggX3_readNumber_X3_next : GoodIn wsX3_readNumber wsX3_next := goodIn_r _ [6, 1, 7, 8, 18, 19, 20, 21, 22, 23, 24, 25, 26, 27] (by decide +kernel) (by decide +kernel)
set_option maxRecDepth 20000 in
theorem gX3_readNumber_X3_next : GoodIn wsX3_readNumber (wsV RX3 47 RX3 yX3_next wsX3_next) := goodIn_app (goodIn_of _ (by decide +kernel)) ggX3_readNumber_X3_next
set_option maxRecDepth 20000 in
theorem ggX3_readNumber_X3_isDigit : GoodIn wsX3_readNumber wsX3_isDigit := goodIn_r _ [11] (by decide +kernel) (by decide +kernel)
set_option maxRecDepth 20000 in
theorem gX3_readNumber_X3_isDigit : GoodIn wsX3_readNumber (va_wsS RX3 67 yX3_isDigit wsX3_isDigit) := goodIn_app (goodIn_of _ (by decide +kernel)) ggX3_readNumber_X3_isDigit
set_option maxRecDepth 20000 in
theorem ggX3_readNumber_X3_write : GoodIn wsX3_readNumber wsX3_write := goodIn_r _ [15, 16, 17, 18, 19, 20, 21, 22, 23, 24, 25, 26, 27] (by decide +kernel) (by decide +kernel)
set_option maxRecDepth 20000 in
theorem gX3_readNumber_X3_write : GoodIn wsX3_readNumber (wsV RX3 55 RX3 yX3_write wsX3_write) := goodIn_app (goodIn_of _ (by decide +kernel)) ggX3_readNumber_X3_write
theorem dX3_readNumber_0 : decode cX3_readNumber 0 = .ok (.iconst 0, 1) := by decide +kernel
theorem dX3_readNumber_1 : decode cX3_readNumber 1 = .ok (.istore_n 1, 1) := by decide +kernel
theorem dX3_readNumber_2 : decode cX3_readNumber 2 = .ok (.iconst 0, 1) := by decide +kernel
theorem dX3_readNumber_3 : decode cX3_readNumber 3 = .ok (.istore_n 2, 1) := by decide +kernel
theorem dX3_readNumber_4 : decode cX3_readNumber 4 = .ok (.iload_n 2, 1) := by decide +kernel
theorem dX3_readNumber_5 : decode cX3_readNumber 5 = .ok (.iconst 4, 1) := by decide +kernel
theorem dX3_readNumber_6 : decode cX3_readNumber 6 = .ok (.if_icmp .ge 42, 3) := by decide +kernel
theorem dX3_readNumber_9 : decode cX3_readNumber 9 = .ok (.aload_n 0, 1) := by decide +kernel
theorem dX3_readNumber_10 : decode cX3_readNumber 10 = .ok (.invokevirtual 47, 3) := by decide +kernel
theorem dX3_readNumber_13 : decode cX3_readNumber 13 = .ok (.invokestatic 67, 3) := by decide +kernel
theorem dX3_readNumber_16 : decode cX3_readNumber 16 = .ok (.ifCond .eq 32, 3) := by decide +kernel
theorem dX3_readNumber_19 : decode cX3_readNumber 19 = .ok (.iload_n 1, 1) := by decide +kernel
theorem dX3_readNumber_20 : decode cX3_readNumber 20 = .ok (.bipush 10, 2) := by decide +kernel
theorem dX3_readNumber_22 : decode cX3_readNumber 22 = .ok (.imul, 1) := by decide +kernel
theorem dX3_readNumber_23 : decode cX3_readNumber 23 = .ok (.aload_n 0, 1) := by decide +kernel
theorem dX3_readNumber_24 : decode cX3_readNumber 24 = .ok (.invokevirtual 47, 3) := by decide +kernel
theorem dX3_readNumber_27 : decode cX3_readNumber 27 = .ok (.iadd, 1) := by decide +kernel
theorem dX3_readNumber_28 : decode cX3_readNumber 28 = .ok (.bipush 48, 2) := by decide +kernel
theorem dX3_readNumber_30 : decode cX3_readNumber 30 = .ok (.isub, 1) := by decide +kernel
theorem dX3_readNumber_31 : decode cX3_readNumber 31 = .ok (.istore_n 1, 1) := by decide +kernel
theorem dX3_readNumber_32 : decode cX3_readNumber 32 = .ok (.aload_n 0, 1) := by decide +kernel
theorem dX3_readNumber_33 : decode cX3_readNumber 33 = .ok (.dup, 1) := by decide +kernel
theorem dX3_readNumber_34 : decode cX3_readNumber 34 = .ok (.getfield 32, 3) := by decide +kernel
theorem dX3_readNumber_37 : decode cX3_readNumber 37 = .ok (.iconst 1, 1) := by decide +kernel
theorem dX3_readNumber_38 : decode cX3_readNumber 38 = .ok (.iadd, 1) := by decide +kernel
theorem dX3_readNumber_39 : decode cX3_readNumber 39 = .ok (.putfield 32, 3) := by decide +kernel
theorem dX3_readNumber_42 : decode cX3_readNumber 42 = .ok (.iinc 2 1, 3) := by decide +kernel
theorem dX3_readNumber_45 : decode cX3_readNumber 45 = .ok (.goto (-41), 3) := by decide +kernel
theorem dX3_readNumber_48 : decode cX3_readNumber 48 = .ok (.aload_n 0, 1) := by decide +kernel
theorem dX3_readNumber_49 : decode cX3_readNumber 49 = .ok (.iload_n 1, 1) := by decide +kernel
theorem dX3_readNumber_50 : decode cX3_readNumber 50 = .ok (.invokevirtual 55, 3) := by decide +kernel
theorem dX3_readNumber_53 : decode cX3_readNumber 53 = .ok (.return_, 1) := by decide +kernel
theorem dX3_next_0 : decode cX3_next 0 = .ok (.aload_n 0, 1) := by decide +kernel
theorem dX3_next_1 : decode cX3_next 1 = .ok (.getfield 32, 3) := by decide +kernel
theorem dX3_next_4 : decode cX3_next 4 = .ok (.ifCond .lt 26, 3) := by decide +kernel
theorem dX3_next_7 : decode cX3_next 7 = .ok (.aload_n 0, 1) := by decide +kernel
theorem dX3_next_8 : decode cX3_next 8 = .ok (.getfield 32, 3) := by decide +kernel
theorem dX3_next_11 : decode cX3_next 11 = .ok (.aload_n 0, 1) := by decide +kernel
theorem dX3_next_12 : decode cX3_next 12 = .ok (.getfield 24, 3) := by decide +kernel
theorem dX3_next_15 : decode cX3_next 15 = .ok (.if_icmp .ge 15, 3) := by decide +kernel
theorem dX3_next_18 : decode cX3_next 18 = .ok (.aload_n 0, 1) := by decide +kernel
theorem dX3_next_19 : decode cX3_next 19 = .ok (.getfield 11, 3) := by decide +kernel
theorem dX3_next_22 : decode cX3_next 22 = .ok (.aload_n 0, 1) := by decide +kernel
theorem dX3_next_23 : decode cX3_next 23 = .ok (.getfield 32, 3) := by decide +kernel
theorem dX3_next_26 : decode cX3_next 26 = .ok (.iaload, 1) := by decide +kernel
theorem dX3_next_27 : decode cX3_next 27 = .ok (.goto 4, 3) := by decide +kernel
theorem dX3_next_30 : decode cX3_next 30 = .ok (.iconst (-1), 1) := by decide +kernel
theorem dX3_next_31 : decode cX3_next 31 = .ok (.ireturn, 1) := by decide +kernel
theorem dX3_isDigit_0 : decode cX3_isDigit 0 = .ok (.iload_n 0, 1) := by decide +kernel
theorem dX3_isDigit_1 : decode cX3_isDigit 1 = .ok (.bipush 48, 2) := by decide +kernel
theorem dX3_isDigit_3 : decode cX3_isDigit 3 = .ok (.if_icmp .lt 13, 3) := by decide +kernel
theorem dX3_isDigit_6 : decode cX3_isDigit 6 = .ok (.iload_n 0, 1) := by decide +kernel
theorem dX3_isDigit_7 : decode cX3_isDigit 7 = .ok (.bipush 57, 2) := by decide +kernel
theorem dX3_isDigit_9 : decode cX3_isDigit 9 = .ok (.if_icmp .gt 7, 3) := by decide +kernel
theorem dX3_isDigit_12 : decode cX3_isDigit 12 = .ok (.iconst 1, 1) := by decide +kernel
theorem dX3_isDigit_13 : decode cX3_isDigit 13 = .ok (.goto 4, 3) := by decide +kernel
theorem dX3_isDigit_16 : decode cX3_isDigit 16 = .ok (.iconst 0, 1) := by decide +kernel
theorem dX3_isDigit_17 : decode cX3_isDigit 17 = .ok (.ireturn, 1) := by decide +kernel
theorem dX3_rankOf_0 : decode cX3_rankOf 0 = .ok (.iload_n 0, 1) := by decide +kernel
theorem dX3_rankOf_1 : decode cX3_rankOf 1 = .ok (.lookupswitch 101 #[(37, 99), (38, 93), (42, 99), (43, 97), (45, 97), (47, 99), (60, 95), (61, 95), (62, 95), (124, 91)], 91) := by decide +kernel
theorem dX3_rankOf_92 : decode cX3_rankOf 92 = .ok (.iconst 0, 1) := by decide +kernel
theorem dX3_rankOf_93 : decode cX3_rankOf 93 = .ok (.ireturn, 1) := by decide +kernel
theorem dX3_rankOf_94 : decode cX3_rankOf 94 = .ok (.iconst 1, 1) := by decide +kernel
theorem dX3_rankOf_95 : decode cX3_rankOf 95 = .ok (.ireturn, 1) := by decide +kernel
theorem dX3_rankOf_96 : decode cX3_rankOf 96 = .ok (.iconst 2, 1) := by decide +kernel
theorem dX3_rankOf_97 : decode cX3_rankOf 97 = .ok (.ireturn, 1) := by decide +kernel
theorem dX3_rankOf_98 : decode cX3_rankOf 98 = .ok (.iconst 3, 1) := by decide +kernel
theorem dX3_rankOf_99 : decode cX3_rankOf 99 = .ok (.ireturn, 1) := by decide +kernel
theorem dX3_rankOf_100 : decode cX3_rankOf 100 = .ok (.iconst 4, 1) := by decide +kernel
theorem dX3_rankOf_101 : decode cX3_rankOf 101 = .ok (.ireturn, 1) := by decide +kernel
theorem dX3_rankOf_102 : decode cX3_rankOf 102 = .ok (.iconst (-1), 1) := by decide +kernel
theorem dX3_rankOf_103 : decode cX3_rankOf 103 = .ok (.ireturn, 1) := by decide +kernel
theorem dX3_write_0 : decode cX3_write 0 = .ok (.aload_n 0, 1) := by decide +kernel
theorem dX3_write_1 : decode cX3_write 1 = .ok (.getfield 35, 3) := by decide +kernel
theorem dX3_write_4 : decode cX3_write 4 = .ok (.bipush 124, 2) := by decide +kernel
theorem dX3_write_6 : decode cX3_write 6 = .ok (.if_icmp .ge 23, 3) := by decide +kernel
theorem dX3_write_9 : decode cX3_write 9 = .ok (.aload_n 0, 1) := by decide +kernel
theorem dX3_write_10 : decode cX3_write 10 = .ok (.getfield 21, 3) := by decide +kernel
theorem dX3_write_13 : decode cX3_write 13 = .ok (.aload_n 0, 1) := by decide +kernel
theorem dX3_write_14 : decode cX3_write 14 = .ok (.getfield 35, 3) := by decide +kernel
theorem dX3_write_17 : decode cX3_write 17 = .ok (.iload_n 1, 1) := by decide +kernel
theorem dX3_write_18 : decode cX3_write 18 = .ok (.iastore, 1) := by decide +kernel
theorem dX3_write_19 : decode cX3_write 19 = .ok (.aload_n 0, 1) := by decide +kernel
theorem dX3_write_20 : decode cX3_write 20 = .ok (.dup, 1) := by decide +kernel
theorem dX3_write_21 : decode cX3_write 21 = .ok (.getfield 35, 3) := by decide +kernel
theorem dX3_write_24 : decode cX3_write 24 = .ok (.iconst 1, 1) := by decide +kernel
theorem dX3_write_25 : decode cX3_write 25 = .ok (.iadd, 1) := by decide +kernel
theorem dX3_write_26 : decode cX3_write 26 = .ok (.putfield 35, 3) := by decide +kernel
theorem dX3_write_29 : decode cX3_write 29 = .ok (.return_, 1) := by decide +kernel
set_option maxRecDepth 20000 in
theorem ggX3_weightFor_X3_valueFor : GoodIn wsX3_weightFor wsX3_valueFor := goodIn_r _ [13, 14, 1, 15, 16, 17, 18, 12, 19, 20, 21, 22, 23, 24, 25, 26, 27, 28, 29, 30, 31, 32, 33, 34, 35, 36, 37, 38, 39, 40, 41] (by decide +kernel) (by decide +kernel)
set_option maxRecDepth 20000 in
theorem gX3_weightFor_X3_valueFor : GoodIn wsX3_weightFor (wsV RX3 79 RX3 yX3_valueFor wsX3_valueFor) := goodIn_app (goodIn_of _ (by decide +kernel)) ggX3_weightFor_X3_valueFor
theorem dX3_weightFor_0 : decode cX3_weightFor 0 = .ok (.aload_n 0, 1) := by decide +kernel
theorem dX3_weightFor_1 : decode cX3_weightFor 1 = .ok (.getfield 38, 3) := by decide +kernel
theorem dX3_weightFor_4 : decode cX3_weightFor 4 = .ok (.ifCond .ne 5, 3) := by decide +kernel
theorem dX3_weightFor_7 : decode cX3_weightFor 7 = .ok (.iconst 1, 1) := by decide +kernel
theorem dX3_weightFor_8 : decode cX3_weightFor 8 = .ok (.ireturn, 1) := by decide +kernel
theorem dX3_weightFor_9 : decode cX3_weightFor 9 = .ok (.iconst 0, 1) := by decide +kernel
theorem dX3_weightFor_10 : decode cX3_weightFor 10 = .ok (.bipush 9, 2) := by decide +kernel
theorem dX3_weightFor_12 : decode cX3_weightFor 12 = .ok (.aload_n 0, 1) := by decide +kernel
theorem dX3_weightFor_13 : decode cX3_weightFor 13 = .ok (.iload_n 1, 1) := by decide +kernel
theorem dX3_weightFor_14 : decode cX3_weightFor 14 = .ok (.iload_n 2, 1) := by decide +kernel
theorem dX3_weightFor_15 : decode cX3_weightFor 15 = .ok (.iload_n 3, 1) := by decide +kernel
theorem dX3_weightFor_16 : decode cX3_weightFor 16 = .ok (.invokevirtual 79, 3) := by decide +kernel
theorem dX3_weightFor_19 : decode cX3_weightFor 19 = .ok (.invokestatic 83, 3) := by decide +kernel
theorem dX3_weightFor_22 : decode cX3_weightFor 22 = .ok (.invokestatic 89, 3) := by decide +kernel
theorem dX3_weightFor_25 : decode cX3_weightFor 25 = .ok (.ireturn, 1) := by decide +kernel
set_option maxRecDepth 20000 in
theorem ggX3_valueFor_X3_pop : GoodIn wsX3_valueFor wsX3_pop := goodIn_r _ [8, 1, 9, 21, 22, 23, 24, 25, 26, 27, 28, 29, 30] (by decide +kernel) (by decide +kernel)
set_option maxRecDepth 20000 in
theorem gX3_valueFor_X3_pop : GoodIn wsX3_valueFor (wsV RX3 95 RX3 yX3_pop wsX3_pop) := goodIn_app (goodIn_of _ (by decide +kernel)) ggX3_valueFor_X3_pop
set_option maxRecDepth 20000 in
theorem ggX3_valueFor_X3_push : GoodIn wsX3_valueFor wsX3_push := goodIn_r _ [13, 1, 9, 21, 22, 23, 24, 25, 26, 27, 28, 29, 30] (by decide +kernel) (by decide +kernel)
set_option maxRecDepth 20000 in
theorem gX3_valueFor_X3_push : GoodIn wsX3_valueFor (wsV RX3 98 RX3 yX3_push wsX3_push) := goodIn_app (goodIn_of _ (by decide +kernel)) ggX3_valueFor_X3_push
set_option maxRecDepth 20000 in
theorem ggX3_valueFor_X3_work : GoodIn wsX3_valueFor wsX3_work := goodIn_r _ [17, 4, 5, 6, 7, 8, 1, 9, 10, 11, 12, 13, 18, 19, 20, 21, 22, 23, 24, 25, 26, 27, 28, 29, 30] (by decide +kernel) (by decide +kernel)
set_option maxRecDepth 20000 in
theorem gX3_valueFor_X3_work : GoodIn wsX3_valueFor (wsV RX3 101 RX3 yX3_work wsX3_work) := goodIn_app (goodIn_of _ (by decide +kernel)) ggX3_valueFor_X3_work
theorem dX3_valueFor_0 : decode cX3_valueFor 0 = .ok (.aload_n 0, 1) := by decide +kernel
theorem dX3_valueFor_1 : decode cX3_valueFor 1 = .ok (.iconst 0, 1) := by decide +kernel
theorem dX3_valueFor_2 : decode cX3_valueFor 2 = .ok (.putfield 92, 3) := by decide +kernel
theorem dX3_valueFor_5 : decode cX3_valueFor 5 = .ok (.iconst 0, 1) := by decide +kernel
theorem dX3_valueFor_6 : decode cX3_valueFor 6 = .ok (.istore 4, 2) := by decide +kernel
theorem dX3_valueFor_8 : decode cX3_valueFor 8 = .ok (.iconst 0, 1) := by decide +kernel
theorem dX3_valueFor_9 : decode cX3_valueFor 9 = .ok (.istore 5, 2) := by decide +kernel
theorem dX3_valueFor_11 : decode cX3_valueFor 11 = .ok (.iload 5, 2) := by decide +kernel
theorem dX3_valueFor_13 : decode cX3_valueFor 13 = .ok (.aload_n 0, 1) := by decide +kernel
theorem dX3_valueFor_14 : decode cX3_valueFor 14 = .ok (.getfield 38, 3) := by decide +kernel
theorem dX3_valueFor_17 : decode cX3_valueFor 17 = .ok (.if_icmp .ge 132, 3) := by decide +kernel
theorem dX3_valueFor_20 : decode cX3_valueFor 20 = .ok (.aload_n 0, 1) := by decide +kernel
theorem dX3_valueFor_21 : decode cX3_valueFor 21 = .ok (.getfield 18, 3) := by decide +kernel
theorem dX3_valueFor_24 : decode cX3_valueFor 24 = .ok (.iload 5, 2) := by decide +kernel
theorem dX3_valueFor_26 : decode cX3_valueFor 26 = .ok (.iaload, 1) := by decide +kernel
theorem dX3_valueFor_27 : decode cX3_valueFor 27 = .ok (.istore 6, 2) := by decide +kernel
theorem dX3_valueFor_29 : decode cX3_valueFor 29 = .ok (.iload 4, 2) := by decide +kernel
theorem dX3_valueFor_31 : decode cX3_valueFor 31 = .ok (.ifCond .eq 20, 3) := by decide +kernel
theorem dX3_valueFor_34 : decode cX3_valueFor 34 = .ok (.iload 6, 2) := by decide +kernel
theorem dX3_valueFor_36 : decode cX3_valueFor 36 = .ok (.bipush (-59), 2) := by decide +kernel
theorem dX3_valueFor_38 : decode cX3_valueFor 38 = .ok (.if_icmp .eq 7, 3) := by decide +kernel
theorem dX3_valueFor_41 : decode cX3_valueFor 41 = .ok (.iconst 1, 1) := by decide +kernel
theorem dX3_valueFor_42 : decode cX3_valueFor 42 = .ok (.goto 4, 3) := by decide +kernel
theorem dX3_valueFor_45 : decode cX3_valueFor 45 = .ok (.iconst 0, 1) := by decide +kernel
theorem dX3_valueFor_46 : decode cX3_valueFor 46 = .ok (.istore 4, 2) := by decide +kernel
theorem dX3_valueFor_48 : decode cX3_valueFor 48 = .ok (.goto 95, 3) := by decide +kernel
theorem dX3_valueFor_51 : decode cX3_valueFor 51 = .ok (.iload 6, 2) := by decide +kernel
theorem dX3_valueFor_53 : decode cX3_valueFor 53 = .ok (.bipush (-59), 2) := by decide +kernel
theorem dX3_valueFor_55 : decode cX3_valueFor 55 = .ok (.if_icmp .ne 8, 3) := by decide +kernel
theorem dX3_valueFor_58 : decode cX3_valueFor 58 = .ok (.aload_n 0, 1) := by decide +kernel
theorem dX3_valueFor_59 : decode cX3_valueFor 59 = .ok (.invokevirtual 95, 3) := by decide +kernel
theorem dX3_valueFor_62 : decode cX3_valueFor 62 = .ok (.ireturn, 1) := by decide +kernel
theorem dX3_valueFor_63 : decode cX3_valueFor 63 = .ok (.iload 6, 2) := by decide +kernel
theorem dX3_valueFor_65 : decode cX3_valueFor 65 = .ok (.bipush (-63), 2) := by decide +kernel
theorem dX3_valueFor_67 : decode cX3_valueFor 67 = .ok (.if_icmp .ne 20, 3) := by decide +kernel
theorem dX3_valueFor_70 : decode cX3_valueFor 70 = .ok (.aload_n 0, 1) := by decide +kernel
theorem dX3_valueFor_71 : decode cX3_valueFor 71 = .ok (.invokevirtual 95, 3) := by decide +kernel
theorem dX3_valueFor_74 : decode cX3_valueFor 74 = .ok (.ifCond .ne 7, 3) := by decide +kernel
theorem dX3_valueFor_77 : decode cX3_valueFor 77 = .ok (.iconst 1, 1) := by decide +kernel
theorem dX3_valueFor_78 : decode cX3_valueFor 78 = .ok (.goto 4, 3) := by decide +kernel
theorem dX3_valueFor_81 : decode cX3_valueFor 81 = .ok (.iconst 0, 1) := by decide +kernel
theorem dX3_valueFor_82 : decode cX3_valueFor 82 = .ok (.istore 4, 2) := by decide +kernel
theorem dX3_valueFor_84 : decode cX3_valueFor 84 = .ok (.goto 59, 3) := by decide +kernel
theorem dX3_valueFor_87 : decode cX3_valueFor 87 = .ok (.iload 6, 2) := by decide +kernel
theorem dX3_valueFor_89 : decode cX3_valueFor 89 = .ok (.ifCond .lt 12, 3) := by decide +kernel
theorem dX3_valueFor_92 : decode cX3_valueFor 92 = .ok (.aload_n 0, 1) := by decide +kernel
theorem dX3_valueFor_93 : decode cX3_valueFor 93 = .ok (.iload 6, 2) := by decide +kernel
theorem dX3_valueFor_95 : decode cX3_valueFor 95 = .ok (.invokevirtual 98, 3) := by decide +kernel
theorem dX3_valueFor_98 : decode cX3_valueFor 98 = .ok (.goto 45, 3) := by decide +kernel
theorem dX3_valueFor_101 : decode cX3_valueFor 101 = .ok (.iload 6, 2) := by decide +kernel
theorem dX3_valueFor_103 : decode cX3_valueFor 103 = .ok (.bipush (-3), 2) := by decide +kernel
theorem dX3_valueFor_105 : decode cX3_valueFor 105 = .ok (.if_icmp .lt 32, 3) := by decide +kernel
theorem dX3_valueFor_108 : decode cX3_valueFor 108 = .ok (.aload_n 0, 1) := by decide +kernel
theorem dX3_valueFor_109 : decode cX3_valueFor 109 = .ok (.iload 6, 2) := by decide +kernel
theorem dX3_valueFor_111 : decode cX3_valueFor 111 = .ok (.iconst (-1), 1) := by decide +kernel
theorem dX3_valueFor_112 : decode cX3_valueFor 112 = .ok (.if_icmp .ne 7, 3) := by decide +kernel
theorem dX3_valueFor_115 : decode cX3_valueFor 115 = .ok (.iload_n 1, 1) := by decide +kernel
theorem dX3_valueFor_116 : decode cX3_valueFor 116 = .ok (.goto 15, 3) := by decide +kernel
theorem dX3_valueFor_119 : decode cX3_valueFor 119 = .ok (.iload 6, 2) := by decide +kernel
theorem dX3_valueFor_121 : decode cX3_valueFor 121 = .ok (.bipush (-2), 2) := by decide +kernel
theorem dX3_valueFor_123 : decode cX3_valueFor 123 = .ok (.if_icmp .ne 7, 3) := by decide +kernel
theorem dX3_valueFor_126 : decode cX3_valueFor 126 = .ok (.iload_n 2, 1) := by decide +kernel
theorem dX3_valueFor_127 : decode cX3_valueFor 127 = .ok (.goto 4, 3) := by decide +kernel
theorem dX3_valueFor_130 : decode cX3_valueFor 130 = .ok (.iload_n 3, 1) := by decide +kernel
theorem dX3_valueFor_131 : decode cX3_valueFor 131 = .ok (.invokevirtual 98, 3) := by decide +kernel
theorem dX3_valueFor_134 : decode cX3_valueFor 134 = .ok (.goto 9, 3) := by decide +kernel
theorem dX3_valueFor_137 : decode cX3_valueFor 137 = .ok (.aload_n 0, 1) := by decide +kernel
theorem dX3_valueFor_138 : decode cX3_valueFor 138 = .ok (.iload 6, 2) := by decide +kernel
theorem dX3_valueFor_140 : decode cX3_valueFor 140 = .ok (.invokevirtual 101, 3) := by decide +kernel
theorem dX3_valueFor_143 : decode cX3_valueFor 143 = .ok (.iinc 5 1, 3) := by decide +kernel
theorem dX3_valueFor_146 : decode cX3_valueFor 146 = .ok (.goto (-135), 3) := by decide +kernel
theorem dX3_valueFor_149 : decode cX3_valueFor 149 = .ok (.iconst 0, 1) := by decide +kernel
theorem dX3_valueFor_150 : decode cX3_valueFor 150 = .ok (.ireturn, 1) := by decide +kernel
set_option maxRecDepth 20000 in
theorem ggX3_work_X3_pop : GoodIn wsX3_work wsX3_pop := goodIn_r _ [5, 6, 7, 15, 16, 17, 18, 19, 20, 21, 22, 23, 24] (by decide +kernel) (by decide +kernel)
set_option maxRecDepth 20000 in
theorem gX3_work_X3_pop : GoodIn wsX3_work (wsV RX3 95 RX3 yX3_pop wsX3_pop) := goodIn_app (goodIn_of _ (by decide +kernel)) ggX3_work_X3_pop
set_option maxRecDepth 20000 in
theorem ggX3_work_X3_push : GoodIn wsX3_work wsX3_push := goodIn_r _ [11, 6, 7, 15, 16, 17, 18, 19, 20, 21, 22, 23, 24] (by decide +kernel) (by decide +kernel)
set_option maxRecDepth 20000 in
theorem gX3_work_X3_push : GoodIn wsX3_work (wsV RX3 98 RX3 yX3_push wsX3_push) := goodIn_app (goodIn_of _ (by decide +kernel)) ggX3_work_X3_push
set_option maxRecDepth 20000 in
theorem ggX3_work_X3_joined : GoodIn wsX3_work wsX3_joined := goodIn_r _ [14] (by decide +kernel) (by decide +kernel)
set_option maxRecDepth 20000 in
theorem gX3_work_X3_joined : GoodIn wsX3_work (va_wsS RX3 104 yX3_joined wsX3_joined) := goodIn_app (goodIn_of _ (by decide +kernel)) ggX3_work_X3_joined
theorem dX3_work_0 : decode cX3_work 0 = .ok (.aload_n 0, 1) := by decide +kernel
theorem dX3_work_1 : decode cX3_work 1 = .ok (.invokevirtual 95, 3) := by decide +kernel
theorem dX3_work_4 : decode cX3_work 4 = .ok (.istore_n 2, 1) := by decide +kernel
theorem dX3_work_5 : decode cX3_work 5 = .ok (.iload_n 1, 1) := by decide +kernel
theorem dX3_work_6 : decode cX3_work 6 = .ok (.bipush (-4), 2) := by decide +kernel
theorem dX3_work_8 : decode cX3_work 8 = .ok (.if_icmp .ne 12, 3) := by decide +kernel
theorem dX3_work_11 : decode cX3_work 11 = .ok (.aload_n 0, 1) := by decide +kernel
theorem dX3_work_12 : decode cX3_work 12 = .ok (.iload_n 2, 1) := by decide +kernel
theorem dX3_work_13 : decode cX3_work 13 = .ok (.ineg, 1) := by decide +kernel
theorem dX3_work_14 : decode cX3_work 14 = .ok (.invokevirtual 98, 3) := by decide +kernel
theorem dX3_work_17 : decode cX3_work 17 = .ok (.goto 39, 3) := by decide +kernel
theorem dX3_work_20 : decode cX3_work 20 = .ok (.iload_n 1, 1) := by decide +kernel
theorem dX3_work_21 : decode cX3_work 21 = .ok (.bipush (-33), 2) := by decide +kernel
theorem dX3_work_23 : decode cX3_work 23 = .ok (.if_icmp .ne 19, 3) := by decide +kernel
theorem dX3_work_26 : decode cX3_work 26 = .ok (.aload_n 0, 1) := by decide +kernel
theorem dX3_work_27 : decode cX3_work 27 = .ok (.iload_n 2, 1) := by decide +kernel
theorem dX3_work_28 : decode cX3_work 28 = .ok (.ifCond .ne 7, 3) := by decide +kernel
theorem dX3_work_31 : decode cX3_work 31 = .ok (.iconst 1, 1) := by decide +kernel
theorem dX3_work_32 : decode cX3_work 32 = .ok (.goto 4, 3) := by decide +kernel
theorem dX3_work_35 : decode cX3_work 35 = .ok (.iconst 0, 1) := by decide +kernel
theorem dX3_work_36 : decode cX3_work 36 = .ok (.invokevirtual 98, 3) := by decide +kernel
theorem dX3_work_39 : decode cX3_work 39 = .ok (.goto 17, 3) := by decide +kernel
theorem dX3_work_42 : decode cX3_work 42 = .ok (.aload_n 0, 1) := by decide +kernel
theorem dX3_work_43 : decode cX3_work 43 = .ok (.iload_n 1, 1) := by decide +kernel
theorem dX3_work_44 : decode cX3_work 44 = .ok (.ineg, 1) := by decide +kernel
theorem dX3_work_45 : decode cX3_work 45 = .ok (.aload_n 0, 1) := by decide +kernel
theorem dX3_work_46 : decode cX3_work 46 = .ok (.invokevirtual 95, 3) := by decide +kernel
theorem dX3_work_49 : decode cX3_work 49 = .ok (.iload_n 2, 1) := by decide +kernel
theorem dX3_work_50 : decode cX3_work 50 = .ok (.invokestatic 104, 3) := by decide +kernel
theorem dX3_work_53 : decode cX3_work 53 = .ok (.invokevirtual 98, 3) := by decide +kernel
theorem dX3_work_56 : decode cX3_work 56 = .ok (.return_, 1) := by decide +kernel
theorem dX3_joined_0 : decode cX3_joined 0 = .ok (.iload_n 0, 1) := by decide +kernel
theorem dX3_joined_1 : decode cX3_joined 1 = .ok (.lookupswitch 168 #[(38, 97), (42, 152), (43, 144), (45, 148), (47, 156), (60, 111), (61, 122), (62, 133), (124, 83)], 83) := by decide +kernel
theorem dX3_joined_84 : decode cX3_joined 84 = .ok (.iload_n 1, 1) := by decide +kernel
theorem dX3_joined_85 : decode cX3_joined 85 = .ok (.ifCond .ne 7, 3) := by decide +kernel
theorem dX3_joined_88 : decode cX3_joined 88 = .ok (.iload_n 2, 1) := by decide +kernel
theorem dX3_joined_89 : decode cX3_joined 89 = .ok (.ifCond .eq 7, 3) := by decide +kernel
theorem dX3_joined_92 : decode cX3_joined 92 = .ok (.iconst 1, 1) := by decide +kernel
theorem dX3_joined_93 : decode cX3_joined 93 = .ok (.goto 4, 3) := by decide +kernel
theorem dX3_joined_96 : decode cX3_joined 96 = .ok (.iconst 0, 1) := by decide +kernel
theorem dX3_joined_97 : decode cX3_joined 97 = .ok (.ireturn, 1) := by decide +kernel
theorem dX3_joined_98 : decode cX3_joined 98 = .ok (.iload_n 1, 1) := by decide +kernel
theorem dX3_joined_99 : decode cX3_joined 99 = .ok (.ifCond .eq 11, 3) := by decide +kernel
theorem dX3_joined_102 : decode cX3_joined 102 = .ok (.iload_n 2, 1) := by decide +kernel
theorem dX3_joined_103 : decode cX3_joined 103 = .ok (.ifCond .eq 7, 3) := by decide +kernel
theorem dX3_joined_106 : decode cX3_joined 106 = .ok (.iconst 1, 1) := by decide +kernel
theorem dX3_joined_107 : decode cX3_joined 107 = .ok (.goto 4, 3) := by decide +kernel
theorem dX3_joined_110 : decode cX3_joined 110 = .ok (.iconst 0, 1) := by decide +kernel
theorem dX3_joined_111 : decode cX3_joined 111 = .ok (.ireturn, 1) := by decide +kernel
theorem dX3_joined_112 : decode cX3_joined 112 = .ok (.iload_n 1, 1) := by decide +kernel
theorem dX3_joined_113 : decode cX3_joined 113 = .ok (.iload_n 2, 1) := by decide +kernel
theorem dX3_joined_114 : decode cX3_joined 114 = .ok (.if_icmp .ge 7, 3) := by decide +kernel
theorem dX3_joined_117 : decode cX3_joined 117 = .ok (.iconst 1, 1) := by decide +kernel
theorem dX3_joined_118 : decode cX3_joined 118 = .ok (.goto 4, 3) := by decide +kernel
theorem dX3_joined_121 : decode cX3_joined 121 = .ok (.iconst 0, 1) := by decide +kernel
theorem dX3_joined_122 : decode cX3_joined 122 = .ok (.ireturn, 1) := by decide +kernel
theorem dX3_joined_123 : decode cX3_joined 123 = .ok (.iload_n 1, 1) := by decide +kernel
theorem dX3_joined_124 : decode cX3_joined 124 = .ok (.iload_n 2, 1) := by decide +kernel
theorem dX3_joined_125 : decode cX3_joined 125 = .ok (.if_icmp .ne 7, 3) := by decide +kernel
theorem dX3_joined_128 : decode cX3_joined 128 = .ok (.iconst 1, 1) := by decide +kernel
theorem dX3_joined_129 : decode cX3_joined 129 = .ok (.goto 4, 3) := by decide +kernel
theorem dX3_joined_132 : decode cX3_joined 132 = .ok (.iconst 0, 1) := by decide +kernel
theorem dX3_joined_133 : decode cX3_joined 133 = .ok (.ireturn, 1) := by decide +kernel
theorem dX3_joined_134 : decode cX3_joined 134 = .ok (.iload_n 1, 1) := by decide +kernel
theorem dX3_joined_135 : decode cX3_joined 135 = .ok (.iload_n 2, 1) := by decide +kernel
theorem dX3_joined_136 : decode cX3_joined 136 = .ok (.if_icmp .le 7, 3) := by decide +kernel
theorem dX3_joined_139 : decode cX3_joined 139 = .ok (.iconst 1, 1) := by decide +kernel
theorem dX3_joined_140 : decode cX3_joined 140 = .ok (.goto 4, 3) := by decide +kernel
theorem dX3_joined_143 : decode cX3_joined 143 = .ok (.iconst 0, 1) := by decide +kernel
theorem dX3_joined_144 : decode cX3_joined 144 = .ok (.ireturn, 1) := by decide +kernel
theorem dX3_joined_145 : decode cX3_joined 145 = .ok (.iload_n 1, 1) := by decide +kernel
theorem dX3_joined_146 : decode cX3_joined 146 = .ok (.iload_n 2, 1) := by decide +kernel
theorem dX3_joined_147 : decode cX3_joined 147 = .ok (.iadd, 1) := by decide +kernel
theorem dX3_joined_148 : decode cX3_joined 148 = .ok (.ireturn, 1) := by decide +kernel
theorem dX3_joined_149 : decode cX3_joined 149 = .ok (.iload_n 1, 1) := by decide +kernel
theorem dX3_joined_150 : decode cX3_joined 150 = .ok (.iload_n 2, 1) := by decide +kernel
theorem dX3_joined_151 : decode cX3_joined 151 = .ok (.isub, 1) := by decide +kernel
theorem dX3_joined_152 : decode cX3_joined 152 = .ok (.ireturn, 1) := by decide +kernel
theorem dX3_joined_153 : decode cX3_joined 153 = .ok (.iload_n 1, 1) := by decide +kernel
theorem dX3_joined_154 : decode cX3_joined 154 = .ok (.iload_n 2, 1) := by decide +kernel
theorem dX3_joined_155 : decode cX3_joined 155 = .ok (.imul, 1) := by decide +kernel
theorem dX3_joined_156 : decode cX3_joined 156 = .ok (.ireturn, 1) := by decide +kernel
theorem dX3_joined_157 : decode cX3_joined 157 = .ok (.iload_n 2, 1) := by decide +kernel
theorem dX3_joined_158 : decode cX3_joined 158 = .ok (.ifCond .ne 7, 3) := by decide +kernel
theorem dX3_joined_161 : decode cX3_joined 161 = .ok (.iconst 0, 1) := by decide +kernel
theorem dX3_joined_162 : decode cX3_joined 162 = .ok (.goto 6, 3) := by decide +kernel
theorem dX3_joined_165 : decode cX3_joined 165 = .ok (.iload_n 1, 1) := by decide +kernel
theorem dX3_joined_166 : decode cX3_joined 166 = .ok (.iload_n 2, 1) := by decide +kernel
theorem dX3_joined_167 : decode cX3_joined 167 = .ok (.idiv, 1) := by decide +kernel
theorem dX3_joined_168 : decode cX3_joined 168 = .ok (.ireturn, 1) := by decide +kernel
theorem dX3_joined_169 : decode cX3_joined 169 = .ok (.iload_n 2, 1) := by decide +kernel
theorem dX3_joined_170 : decode cX3_joined 170 = .ok (.ifCond .ne 7, 3) := by decide +kernel
theorem dX3_joined_173 : decode cX3_joined 173 = .ok (.iconst 0, 1) := by decide +kernel
theorem dX3_joined_174 : decode cX3_joined 174 = .ok (.goto 6, 3) := by decide +kernel
theorem dX3_joined_177 : decode cX3_joined 177 = .ok (.iload_n 1, 1) := by decide +kernel
theorem dX3_joined_178 : decode cX3_joined 178 = .ok (.iload_n 2, 1) := by decide +kernel
theorem dX3_joined_179 : decode cX3_joined 179 = .ok (.irem, 1) := by decide +kernel
theorem dX3_joined_180 : decode cX3_joined 180 = .ok (.ireturn, 1) := by decide +kernel
theorem dX3_push_0 : decode cX3_push 0 = .ok (.aload_n 0, 1) := by decide +kernel
theorem dX3_push_1 : decode cX3_push 1 = .ok (.getfield 92, 3) := by decide +kernel
theorem dX3_push_4 : decode cX3_push 4 = .ok (.bipush 124, 2) := by decide +kernel
theorem dX3_push_6 : decode cX3_push 6 = .ok (.if_icmp .ge 23, 3) := by decide +kernel
theorem dX3_push_9 : decode cX3_push 9 = .ok (.aload_n 0, 1) := by decide +kernel
theorem dX3_push_10 : decode cX3_push 10 = .ok (.getfield 15, 3) := by decide +kernel
theorem dX3_push_13 : decode cX3_push 13 = .ok (.aload_n 0, 1) := by decide +kernel
theorem dX3_push_14 : decode cX3_push 14 = .ok (.getfield 92, 3) := by decide +kernel
theorem dX3_push_17 : decode cX3_push 17 = .ok (.iload_n 1, 1) := by decide +kernel
theorem dX3_push_18 : decode cX3_push 18 = .ok (.iastore, 1) := by decide +kernel
theorem dX3_push_19 : decode cX3_push 19 = .ok (.aload_n 0, 1) := by decide +kernel
theorem dX3_push_20 : decode cX3_push 20 = .ok (.dup, 1) := by decide +kernel
theorem dX3_push_21 : decode cX3_push 21 = .ok (.getfield 92, 3) := by decide +kernel
theorem dX3_push_24 : decode cX3_push 24 = .ok (.iconst 1, 1) := by decide +kernel
theorem dX3_push_25 : decode cX3_push 25 = .ok (.iadd, 1) := by decide +kernel
theorem dX3_push_26 : decode cX3_push 26 = .ok (.putfield 92, 3) := by decide +kernel
theorem dX3_push_29 : decode cX3_push 29 = .ok (.return_, 1) := by decide +kernel
theorem dX3_pop_0 : decode cX3_pop 0 = .ok (.aload_n 0, 1) := by decide +kernel
theorem dX3_pop_1 : decode cX3_pop 1 = .ok (.getfield 92, 3) := by decide +kernel
theorem dX3_pop_4 : decode cX3_pop 4 = .ok (.ifCond .ne 5, 3) := by decide +kernel
theorem dX3_pop_7 : decode cX3_pop 7 = .ok (.iconst 0, 1) := by decide +kernel
theorem dX3_pop_8 : decode cX3_pop 8 = .ok (.ireturn, 1) := by decide +kernel
theorem dX3_pop_9 : decode cX3_pop 9 = .ok (.aload_n 0, 1) := by decide +kernel
theorem dX3_pop_10 : decode cX3_pop 10 = .ok (.dup, 1) := by decide +kernel
theorem dX3_pop_11 : decode cX3_pop 11 = .ok (.getfield 92, 3) := by decide +kernel
theorem dX3_pop_14 : decode cX3_pop 14 = .ok (.iconst 1, 1) := by decide +kernel
theorem dX3_pop_15 : decode cX3_pop 15 = .ok (.isub, 1) := by decide +kernel
theorem dX3_pop_16 : decode cX3_pop 16 = .ok (.putfield 92, 3) := by decide +kernel
theorem dX3_pop_19 : decode cX3_pop 19 = .ok (.aload_n 0, 1) := by decide +kernel
theorem dX3_pop_20 : decode cX3_pop 20 = .ok (.getfield 15, 3) := by decide +kernel
theorem dX3_pop_23 : decode cX3_pop 23 = .ok (.aload_n 0, 1) := by decide +kernel
theorem dX3_pop_24 : decode cX3_pop 24 = .ok (.getfield 92, 3) := by decide +kernel
theorem dX3_pop_27 : decode cX3_pop 27 = .ok (.iaload, 1) := by decide +kernel
theorem dX3_pop_28 : decode cX3_pop 28 = .ok (.ireturn, 1) := by decide +kernel
theorem dX4_init_0 : decode cX4_init 0 = .ok (.aload_n 0, 1) := by decide +kernel
theorem dX4_init_1 : decode cX4_init 1 = .ok (.invokespecial 3, 3) := by decide +kernel
theorem dX4_init_4 : decode cX4_init 4 = .ok (.aload_n 0, 1) := by decide +kernel
theorem dX4_init_5 : decode cX4_init 5 = .ok (.bipush 61, 2) := by decide +kernel
theorem dX4_init_7 : decode cX4_init 7 = .ok (.newarray .int, 2) := by decide +kernel
theorem dX4_init_9 : decode cX4_init 9 = .ok (.putfield 9, 3) := by decide +kernel
theorem dX4_init_12 : decode cX4_init 12 = .ok (.aload_n 0, 1) := by decide +kernel
theorem dX4_init_13 : decode cX4_init 13 = .ok (.bipush 62, 2) := by decide +kernel
theorem dX4_init_15 : decode cX4_init 15 = .ok (.newarray .int, 2) := by decide +kernel
theorem dX4_init_17 : decode cX4_init 17 = .ok (.putfield 15, 3) := by decide +kernel
theorem dX4_init_20 : decode cX4_init 20 = .ok (.aload_n 0, 1) := by decide +kernel
theorem dX4_init_21 : decode cX4_init 21 = .ok (.bipush 7, 2) := by decide +kernel
theorem dX4_init_23 : decode cX4_init 23 = .ok (.sipush 1891, 3) := by decide +kernel
theorem dX4_init_26 : decode cX4_init 26 = .ok (.multianewarray 18 2, 4) := by decide +kernel
theorem dX4_init_30 : decode cX4_init 30 = .ok (.putfield 20, 3) := by decide +kernel
theorem dX4_init_33 : decode cX4_init 33 = .ok (.aload_n 0, 1) := by decide +kernel
theorem dX4_init_34 : decode cX4_init 34 = .ok (.bipush 7, 2) := by decide +kernel
theorem dX4_init_36 : decode cX4_init 36 = .ok (.sipush 1891, 3) := by decide +kernel
theorem dX4_init_39 : decode cX4_init 39 = .ok (.multianewarray 18 2, 4) := by decide +kernel
theorem dX4_init_43 : decode cX4_init 43 = .ok (.putfield 23, 3) := by decide +kernel
theorem dX4_init_46 : decode cX4_init 46 = .ok (.aload_n 0, 1) := by decide +kernel
theorem dX4_init_47 : decode cX4_init 47 = .ok (.bipush 7, 2) := by decide +kernel
theorem dX4_init_49 : decode cX4_init 49 = .ok (.newarray .int, 2) := by decide +kernel
theorem dX4_init_51 : decode cX4_init 51 = .ok (.putfield 26, 3) := by decide +kernel
theorem dX4_init_54 : decode cX4_init 54 = .ok (.aload_n 0, 1) := by decide +kernel
theorem dX4_init_55 : decode cX4_init 55 = .ok (.iconst (-1), 1) := by decide +kernel
theorem dX4_init_56 : decode cX4_init 56 = .ok (.putfield 29, 3) := by decide +kernel
theorem dX4_init_59 : decode cX4_init 59 = .ok (.return_, 1) := by decide +kernel
set_option maxRecDepth 20000 in
theorem ggX4_weigh_X8_steps : GoodIn wsX4_weigh wsX8_steps := goodIn_r _ [10, 11, 76, 77, 78, 79, 80, 81] (by decide +kernel) (by decide +kernel)
set_option maxRecDepth 20000 in
theorem gX4_weigh_X8_steps : GoodIn wsX4_weigh (wsV RX4 33 RX8 yX8_steps wsX8_steps) := goodIn_app (goodIn_of _ (by decide +kernel)) ggX4_weigh_X8_steps
set_option maxRecDepth 20000 in
theorem ggX4_weigh_X8_jars : GoodIn wsX4_weigh wsX8_jars := goodIn_r _ [15, 11, 76, 77, 78, 79, 80, 81] (by decide +kernel) (by decide +kernel)
set_option maxRecDepth 20000 in
theorem gX4_weigh_X8_jars : GoodIn wsX4_weigh (wsV RX4 39 RX8 yX8_jars wsX8_jars) := goodIn_app (goodIn_of _ (by decide +kernel)) ggX4_weigh_X8_jars
set_option maxRecDepth 20000 in
theorem ggX4_weigh_X3_weightFor : GoodIn wsX4_weigh wsX3_weightFor := goodIn_r _ [20, 21, 22, 23, 24, 25, 26, 27, 28, 29, 30, 31, 19, 32, 33, 34, 35, 36, 37, 38, 39, 40, 41, 42, 43, 44, 45, 46, 47, 48, 49, 50, 58, 59, 60, 61, 62, 63, 64, 65, 66, 67] (by decide +kernel) (by decide +kernel)
set_option maxRecDepth 20000 in
theorem gX4_weigh_X3_weightFor : GoodIn wsX4_weigh (wsV RX4 53 RX3 yX3_weightFor wsX3_weightFor) := goodIn_app (goodIn_of _ (by decide +kernel)) ggX4_weigh_X3_weightFor
set_option maxRecDepth 20000 in
theorem ggX4_weigh_X4_forgetFrom : GoodIn wsX4_weigh wsX4_forgetFrom := goodIn_r _ [55, 56, 57, 23, 24, 25, 68, 69, 70, 71, 72, 73, 74, 75] (by decide +kernel) (by decide +kernel)
set_option maxRecDepth 20000 in
theorem gX4_weigh_X4_forgetFrom : GoodIn wsX4_weigh (wsV RX4 57 RX4 yX4_forgetFrom wsX4_forgetFrom) := goodIn_app (goodIn_of _ (by decide +kernel)) ggX4_weigh_X4_forgetFrom
theorem dX4_weigh_0 : decode cX4_weigh 0 = .ok (.aload_n 2, 1) := by decide +kernel
theorem dX4_weigh_1 : decode cX4_weigh 1 = .ok (.invokevirtual 33, 3) := by decide +kernel
theorem dX4_weigh_4 : decode cX4_weigh 4 = .ok (.istore_n 3, 1) := by decide +kernel
theorem dX4_weigh_5 : decode cX4_weigh 5 = .ok (.aload_n 2, 1) := by decide +kernel
theorem dX4_weigh_6 : decode cX4_weigh 6 = .ok (.invokevirtual 39, 3) := by decide +kernel
theorem dX4_weigh_9 : decode cX4_weigh 9 = .ok (.istore 4, 2) := by decide +kernel
theorem dX4_weigh_11 : decode cX4_weigh 11 = .ok (.aload_n 1, 1) := by decide +kernel
theorem dX4_weigh_12 : decode cX4_weigh 12 = .ok (.getfield 42, 3) := by decide +kernel
theorem dX4_weigh_15 : decode cX4_weigh 15 = .ok (.aload_n 0, 1) := by decide +kernel
theorem dX4_weigh_16 : decode cX4_weigh 16 = .ok (.getfield 29, 3) := by decide +kernel
theorem dX4_weigh_19 : decode cX4_weigh 19 = .ok (.if_icmp .ne 21, 3) := by decide +kernel
theorem dX4_weigh_22 : decode cX4_weigh 22 = .ok (.iload_n 3, 1) := by decide +kernel
theorem dX4_weigh_23 : decode cX4_weigh 23 = .ok (.aload_n 0, 1) := by decide +kernel
theorem dX4_weigh_24 : decode cX4_weigh 24 = .ok (.getfield 47, 3) := by decide +kernel
theorem dX4_weigh_27 : decode cX4_weigh 27 = .ok (.if_icmp .ne 13, 3) := by decide +kernel
theorem dX4_weigh_30 : decode cX4_weigh 30 = .ok (.iload 4, 2) := by decide +kernel
theorem dX4_weigh_32 : decode cX4_weigh 32 = .ok (.aload_n 0, 1) := by decide +kernel
theorem dX4_weigh_33 : decode cX4_weigh 33 = .ok (.getfield 50, 3) := by decide +kernel
theorem dX4_weigh_36 : decode cX4_weigh 36 = .ok (.if_icmp .ne 4, 3) := by decide +kernel
theorem dX4_weigh_39 : decode cX4_weigh 39 = .ok (.return_, 1) := by decide +kernel
theorem dX4_weigh_40 : decode cX4_weigh 40 = .ok (.aload_n 0, 1) := by decide +kernel
theorem dX4_weigh_41 : decode cX4_weigh 41 = .ok (.aload_n 1, 1) := by decide +kernel
theorem dX4_weigh_42 : decode cX4_weigh 42 = .ok (.getfield 42, 3) := by decide +kernel
theorem dX4_weigh_45 : decode cX4_weigh 45 = .ok (.putfield 29, 3) := by decide +kernel
theorem dX4_weigh_48 : decode cX4_weigh 48 = .ok (.aload_n 0, 1) := by decide +kernel
theorem dX4_weigh_49 : decode cX4_weigh 49 = .ok (.iload_n 3, 1) := by decide +kernel
theorem dX4_weigh_50 : decode cX4_weigh 50 = .ok (.putfield 47, 3) := by decide +kernel
theorem dX4_weigh_53 : decode cX4_weigh 53 = .ok (.aload_n 0, 1) := by decide +kernel
theorem dX4_weigh_54 : decode cX4_weigh 54 = .ok (.iload 4, 2) := by decide +kernel
theorem dX4_weigh_56 : decode cX4_weigh 56 = .ok (.putfield 50, 3) := by decide +kernel
theorem dX4_weigh_59 : decode cX4_weigh 59 = .ok (.iconst 0, 1) := by decide +kernel
theorem dX4_weigh_60 : decode cX4_weigh 60 = .ok (.istore 5, 2) := by decide +kernel
theorem dX4_weigh_62 : decode cX4_weigh 62 = .ok (.iload 5, 2) := by decide +kernel
theorem dX4_weigh_64 : decode cX4_weigh 64 = .ok (.iload_n 3, 1) := by decide +kernel
theorem dX4_weigh_65 : decode cX4_weigh 65 = .ok (.if_icmp .gt 73, 3) := by decide +kernel
theorem dX4_weigh_68 : decode cX4_weigh 68 = .ok (.iload 5, 2) := by decide +kernel
theorem dX4_weigh_70 : decode cX4_weigh 70 = .ok (.bipush 61, 2) := by decide +kernel
theorem dX4_weigh_72 : decode cX4_weigh 72 = .ok (.if_icmp .ge 66, 3) := by decide +kernel
theorem dX4_weigh_75 : decode cX4_weigh 75 = .ok (.aload_n 1, 1) := by decide +kernel
theorem dX4_weigh_76 : decode cX4_weigh 76 = .ok (.iload 5, 2) := by decide +kernel
theorem dX4_weigh_78 : decode cX4_weigh 78 = .ok (.iload_n 3, 1) := by decide +kernel
theorem dX4_weigh_79 : decode cX4_weigh 79 = .ok (.iload 4, 2) := by decide +kernel
theorem dX4_weigh_81 : decode cX4_weigh 81 = .ok (.invokevirtual 53, 3) := by decide +kernel
theorem dX4_weigh_84 : decode cX4_weigh 84 = .ok (.istore 6, 2) := by decide +kernel
theorem dX4_weigh_86 : decode cX4_weigh 86 = .ok (.iload 6, 2) := by decide +kernel
theorem dX4_weigh_88 : decode cX4_weigh 88 = .ok (.aload_n 0, 1) := by decide +kernel
theorem dX4_weigh_89 : decode cX4_weigh 89 = .ok (.getfield 9, 3) := by decide +kernel
theorem dX4_weigh_92 : decode cX4_weigh 92 = .ok (.iload 5, 2) := by decide +kernel
theorem dX4_weigh_94 : decode cX4_weigh 94 = .ok (.iaload, 1) := by decide +kernel
theorem dX4_weigh_95 : decode cX4_weigh 95 = .ok (.if_icmp .eq 18, 3) := by decide +kernel
theorem dX4_weigh_98 : decode cX4_weigh 98 = .ok (.aload_n 0, 1) := by decide +kernel
theorem dX4_weigh_99 : decode cX4_weigh 99 = .ok (.getfield 9, 3) := by decide +kernel
theorem dX4_weigh_102 : decode cX4_weigh 102 = .ok (.iload 5, 2) := by decide +kernel
theorem dX4_weigh_104 : decode cX4_weigh 104 = .ok (.iload 6, 2) := by decide +kernel
theorem dX4_weigh_106 : decode cX4_weigh 106 = .ok (.iastore, 1) := by decide +kernel
theorem dX4_weigh_107 : decode cX4_weigh 107 = .ok (.aload_n 0, 1) := by decide +kernel
theorem dX4_weigh_108 : decode cX4_weigh 108 = .ok (.iload 5, 2) := by decide +kernel
theorem dX4_weigh_110 : decode cX4_weigh 110 = .ok (.invokevirtual 57, 3) := by decide +kernel
theorem dX4_weigh_113 : decode cX4_weigh 113 = .ok (.aload_n 0, 1) := by decide +kernel
theorem dX4_weigh_114 : decode cX4_weigh 114 = .ok (.getfield 15, 3) := by decide +kernel
theorem dX4_weigh_117 : decode cX4_weigh 117 = .ok (.iload 5, 2) := by decide +kernel
theorem dX4_weigh_119 : decode cX4_weigh 119 = .ok (.iconst 1, 1) := by decide +kernel
theorem dX4_weigh_120 : decode cX4_weigh 120 = .ok (.iadd, 1) := by decide +kernel
theorem dX4_weigh_121 : decode cX4_weigh 121 = .ok (.aload_n 0, 1) := by decide +kernel
theorem dX4_weigh_122 : decode cX4_weigh 122 = .ok (.getfield 15, 3) := by decide +kernel
theorem dX4_weigh_125 : decode cX4_weigh 125 = .ok (.iload 5, 2) := by decide +kernel
theorem dX4_weigh_127 : decode cX4_weigh 127 = .ok (.iaload, 1) := by decide +kernel
theorem dX4_weigh_128 : decode cX4_weigh 128 = .ok (.iload 6, 2) := by decide +kernel
theorem dX4_weigh_130 : decode cX4_weigh 130 = .ok (.iadd, 1) := by decide +kernel
theorem dX4_weigh_131 : decode cX4_weigh 131 = .ok (.iastore, 1) := by decide +kernel
theorem dX4_weigh_132 : decode cX4_weigh 132 = .ok (.iinc 5 1, 3) := by decide +kernel
theorem dX4_weigh_135 : decode cX4_weigh 135 = .ok (.goto (-73), 3) := by decide +kernel
theorem dX4_weigh_138 : decode cX4_weigh 138 = .ok (.return_, 1) := by decide +kernel
theorem dX4_forgetFrom_0 : decode cX4_forgetFrom 0 = .ok (.iconst 0, 1) := by decide +kernel
theorem dX4_forgetFrom_1 : decode cX4_forgetFrom 1 = .ok (.istore_n 2, 1) := by decide +kernel
theorem dX4_forgetFrom_2 : decode cX4_forgetFrom 2 = .ok (.iload_n 2, 1) := by decide +kernel
theorem dX4_forgetFrom_3 : decode cX4_forgetFrom 3 = .ok (.bipush 6, 2) := by decide +kernel
theorem dX4_forgetFrom_5 : decode cX4_forgetFrom 5 = .ok (.if_icmp .gt 25, 3) := by decide +kernel
theorem dX4_forgetFrom_8 : decode cX4_forgetFrom 8 = .ok (.aload_n 0, 1) := by decide +kernel
theorem dX4_forgetFrom_9 : decode cX4_forgetFrom 9 = .ok (.getfield 26, 3) := by decide +kernel
theorem dX4_forgetFrom_12 : decode cX4_forgetFrom 12 = .ok (.iload_n 2, 1) := by decide +kernel
theorem dX4_forgetFrom_13 : decode cX4_forgetFrom 13 = .ok (.aload_n 0, 1) := by decide +kernel
theorem dX4_forgetFrom_14 : decode cX4_forgetFrom 14 = .ok (.getfield 26, 3) := by decide +kernel
theorem dX4_forgetFrom_17 : decode cX4_forgetFrom 17 = .ok (.iload_n 2, 1) := by decide +kernel
theorem dX4_forgetFrom_18 : decode cX4_forgetFrom 18 = .ok (.iaload, 1) := by decide +kernel
theorem dX4_forgetFrom_19 : decode cX4_forgetFrom 19 = .ok (.iload_n 1, 1) := by decide +kernel
theorem dX4_forgetFrom_20 : decode cX4_forgetFrom 20 = .ok (.invokestatic 61, 3) := by decide +kernel
theorem dX4_forgetFrom_23 : decode cX4_forgetFrom 23 = .ok (.iastore, 1) := by decide +kernel
theorem dX4_forgetFrom_24 : decode cX4_forgetFrom 24 = .ok (.iinc 2 1, 3) := by decide +kernel
theorem dX4_forgetFrom_27 : decode cX4_forgetFrom 27 = .ok (.goto (-25), 3) := by decide +kernel
theorem dX4_forgetFrom_30 : decode cX4_forgetFrom 30 = .ok (.return_, 1) := by decide +kernel
set_option maxRecDepth 20000 in
theorem ggX4_weightAt_X11_within : GoodIn wsX4_weightAt wsX11_within := goodIn_r _ [4] (by decide +kernel) (by decide +kernel)
set_option maxRecDepth 20000 in
theorem gX4_weightAt_X11_within_n67 : GoodIn wsX4_weightAt (wsX11_within) := ggX4_weightAt_X11_within
theorem dX4_weightAt_0 : decode cX4_weightAt 0 = .ok (.iload_n 1, 1) := by decide +kernel
theorem dX4_weightAt_1 : decode cX4_weightAt 1 = .ok (.iconst 0, 1) := by decide +kernel
theorem dX4_weightAt_2 : decode cX4_weightAt 2 = .ok (.bipush 60, 2) := by decide +kernel
theorem dX4_weightAt_4 : decode cX4_weightAt 4 = .ok (.invokestatic 67, 3) := by decide +kernel
theorem dX4_weightAt_7 : decode cX4_weightAt 7 = .ok (.ifCond .eq 12, 3) := by decide +kernel
theorem dX4_weightAt_10 : decode cX4_weightAt 10 = .ok (.aload_n 0, 1) := by decide +kernel
theorem dX4_weightAt_11 : decode cX4_weightAt 11 = .ok (.getfield 9, 3) := by decide +kernel
theorem dX4_weightAt_14 : decode cX4_weightAt 14 = .ok (.iload_n 1, 1) := by decide +kernel
theorem dX4_weightAt_15 : decode cX4_weightAt 15 = .ok (.iaload, 1) := by decide +kernel
theorem dX4_weightAt_16 : decode cX4_weightAt 16 = .ok (.goto 4, 3) := by decide +kernel
theorem dX4_weightAt_19 : decode cX4_weightAt 19 = .ok (.iconst 0, 1) := by decide +kernel
theorem dX4_weightAt_20 : decode cX4_weightAt 20 = .ok (.ireturn, 1) := by decide +kernel
set_option maxRecDepth 20000 in
theorem ggX4_weightTo_X11_within : GoodIn wsX4_weightTo wsX11_within := goodIn_r _ [4] (by decide +kernel) (by decide +kernel)
set_option maxRecDepth 20000 in
theorem gX4_weightTo_X11_within_n67 : GoodIn wsX4_weightTo (wsX11_within) := ggX4_weightTo_X11_within
theorem dX4_weightTo_0 : decode cX4_weightTo 0 = .ok (.iload_n 1, 1) := by decide +kernel
theorem dX4_weightTo_1 : decode cX4_weightTo 1 = .ok (.iconst 0, 1) := by decide +kernel
theorem dX4_weightTo_2 : decode cX4_weightTo 2 = .ok (.bipush 60, 2) := by decide +kernel
theorem dX4_weightTo_4 : decode cX4_weightTo 4 = .ok (.invokestatic 67, 3) := by decide +kernel
theorem dX4_weightTo_7 : decode cX4_weightTo 7 = .ok (.ifCond .eq 14, 3) := by decide +kernel
theorem dX4_weightTo_10 : decode cX4_weightTo 10 = .ok (.aload_n 0, 1) := by decide +kernel
theorem dX4_weightTo_11 : decode cX4_weightTo 11 = .ok (.getfield 15, 3) := by decide +kernel
theorem dX4_weightTo_14 : decode cX4_weightTo 14 = .ok (.iload_n 1, 1) := by decide +kernel
theorem dX4_weightTo_15 : decode cX4_weightTo 15 = .ok (.iconst 1, 1) := by decide +kernel
theorem dX4_weightTo_16 : decode cX4_weightTo 16 = .ok (.iadd, 1) := by decide +kernel
theorem dX4_weightTo_17 : decode cX4_weightTo 17 = .ok (.iaload, 1) := by decide +kernel
theorem dX4_weightTo_18 : decode cX4_weightTo 18 = .ok (.goto 4, 3) := by decide +kernel
theorem dX4_weightTo_21 : decode cX4_weightTo 21 = .ok (.iconst 0, 1) := by decide +kernel
theorem dX4_weightTo_22 : decode cX4_weightTo 22 = .ok (.ireturn, 1) := by decide +kernel
set_option maxRecDepth 20000 in
theorem ggX4_weightOf_X4_weightTo : GoodIn wsX4_weightOf wsX4_weightTo := goodIn_r _ [5, 6, 7, 8, 9, 13, 14, 15, 16, 17, 18, 19, 20] (by decide +kernel) (by decide +kernel)
set_option maxRecDepth 20000 in
theorem gX4_weightOf_X4_weightTo : GoodIn wsX4_weightOf (wsV RX4 76 RX4 yX4_weightTo wsX4_weightTo) := goodIn_app (goodIn_of _ (by decide +kernel)) ggX4_weightOf_X4_weightTo
theorem dX4_weightOf_0 : decode cX4_weightOf 0 = .ok (.aload_n 0, 1) := by decide +kernel
theorem dX4_weightOf_1 : decode cX4_weightOf 1 = .ok (.aload_n 1, 1) := by decide +kernel
theorem dX4_weightOf_2 : decode cX4_weightOf 2 = .ok (.getfield 71, 3) := by decide +kernel
theorem dX4_weightOf_5 : decode cX4_weightOf 5 = .ok (.invokevirtual 76, 3) := by decide +kernel
theorem dX4_weightOf_8 : decode cX4_weightOf 8 = .ok (.aload_n 0, 1) := by decide +kernel
theorem dX4_weightOf_9 : decode cX4_weightOf 9 = .ok (.aload_n 1, 1) := by decide +kernel
theorem dX4_weightOf_10 : decode cX4_weightOf 10 = .ok (.getfield 80, 3) := by decide +kernel
theorem dX4_weightOf_13 : decode cX4_weightOf 13 = .ok (.iconst 1, 1) := by decide +kernel
theorem dX4_weightOf_14 : decode cX4_weightOf 14 = .ok (.isub, 1) := by decide +kernel
theorem dX4_weightOf_15 : decode cX4_weightOf 15 = .ok (.invokevirtual 76, 3) := by decide +kernel
theorem dX4_weightOf_18 : decode cX4_weightOf 18 = .ok (.isub, 1) := by decide +kernel
theorem dX4_weightOf_19 : decode cX4_weightOf 19 = .ok (.ireturn, 1) := by decide +kernel
set_option maxRecDepth 20000 in
theorem ggX4_cost_X4_makesReady : GoodIn wsX4_cost wsX4_makesReady := goodIn_r _ [7, 8, 9, 10, 11, 12, 13, 14, 15, 16, 17, 18, 6, 19, 1, 2, 20, 21, 22, 23, 24, 25, 26, 27, 28, 37, 38, 39, 29, 30, 31, 32, 33, 34, 35, 36] (by decide +kernel) (by decide +kernel)
set_option maxRecDepth 20000 in
theorem gX4_cost_X4_makesReady : GoodIn wsX4_cost (wsV RX4 83 RX4 yX4_makesReady wsX4_makesReady) := goodIn_app (goodIn_of _ (by decide +kernel)) ggX4_cost_X4_makesReady
set_option maxRecDepth 20000 in
theorem ggX4_cost_X4_placeOf : GoodIn wsX4_cost wsX4_placeOf := goodIn_r _ [23] (by decide +kernel) (by decide +kernel)
set_option maxRecDepth 20000 in
theorem gX4_cost_X4_placeOf : GoodIn wsX4_cost (va_wsS RX4 89 yX4_placeOf wsX4_placeOf) := goodIn_app (goodIn_of _ (by decide +kernel)) ggX4_cost_X4_placeOf
theorem dX4_cost_0 : decode cX4_cost 0 = .ok (.aload_n 0, 1) := by decide +kernel
theorem dX4_cost_1 : decode cX4_cost 1 = .ok (.aload_n 1, 1) := by decide +kernel
theorem dX4_cost_2 : decode cX4_cost 2 = .ok (.invokevirtual 83, 3) := by decide +kernel
theorem dX4_cost_5 : decode cX4_cost 5 = .ok (.ifCond .eq 27, 3) := by decide +kernel
theorem dX4_cost_8 : decode cX4_cost 8 = .ok (.aload_n 0, 1) := by decide +kernel
theorem dX4_cost_9 : decode cX4_cost 9 = .ok (.getfield 20, 3) := by decide +kernel
theorem dX4_cost_12 : decode cX4_cost 12 = .ok (.aload_n 1, 1) := by decide +kernel
theorem dX4_cost_13 : decode cX4_cost 13 = .ok (.getfield 87, 3) := by decide +kernel
theorem dX4_cost_16 : decode cX4_cost 16 = .ok (.aaload, 1) := by decide +kernel
theorem dX4_cost_17 : decode cX4_cost 17 = .ok (.aload_n 1, 1) := by decide +kernel
theorem dX4_cost_18 : decode cX4_cost 18 = .ok (.getfield 80, 3) := by decide +kernel
theorem dX4_cost_21 : decode cX4_cost 21 = .ok (.aload_n 1, 1) := by decide +kernel
theorem dX4_cost_22 : decode cX4_cost 22 = .ok (.getfield 71, 3) := by decide +kernel
theorem dX4_cost_25 : decode cX4_cost 25 = .ok (.invokestatic 89, 3) := by decide +kernel
theorem dX4_cost_28 : decode cX4_cost 28 = .ok (.iaload, 1) := by decide +kernel
theorem dX4_cost_29 : decode cX4_cost 29 = .ok (.goto 5, 3) := by decide +kernel
theorem dX4_cost_32 : decode cX4_cost 32 = .ok (.ldc 92, 2) := by decide +kernel
theorem dX4_cost_34 : decode cX4_cost 34 = .ok (.ireturn, 1) := by decide +kernel
set_option maxRecDepth 20000 in
theorem ggX4_first_X4_makesReady : GoodIn wsX4_first wsX4_makesReady := goodIn_r _ [6, 7, 8, 9, 10, 11, 12, 13, 14, 15, 16, 17, 5, 18, 19, 20, 1, 21, 22, 23, 24, 25, 26, 27, 28, 37, 38, 39, 29, 30, 31, 32, 33, 34, 35, 36] (by decide +kernel) (by decide +kernel)
set_option maxRecDepth 20000 in
theorem gX4_first_X4_makesReady : GoodIn wsX4_first (wsV RX4 83 RX4 yX4_makesReady wsX4_makesReady) := goodIn_app (goodIn_of _ (by decide +kernel)) ggX4_first_X4_makesReady
set_option maxRecDepth 20000 in
theorem ggX4_first_X4_placeOf : GoodIn wsX4_first wsX4_placeOf := goodIn_r _ [23] (by decide +kernel) (by decide +kernel)
set_option maxRecDepth 20000 in
theorem gX4_first_X4_placeOf : GoodIn wsX4_first (va_wsS RX4 89 yX4_placeOf wsX4_placeOf) := goodIn_app (goodIn_of _ (by decide +kernel)) ggX4_first_X4_placeOf
theorem dX4_first_0 : decode cX4_first 0 = .ok (.aload_n 0, 1) := by decide +kernel
theorem dX4_first_1 : decode cX4_first 1 = .ok (.aload_n 1, 1) := by decide +kernel
theorem dX4_first_2 : decode cX4_first 2 = .ok (.invokevirtual 83, 3) := by decide +kernel
theorem dX4_first_5 : decode cX4_first 5 = .ok (.ifCond .eq 27, 3) := by decide +kernel
theorem dX4_first_8 : decode cX4_first 8 = .ok (.aload_n 0, 1) := by decide +kernel
theorem dX4_first_9 : decode cX4_first 9 = .ok (.getfield 23, 3) := by decide +kernel
theorem dX4_first_12 : decode cX4_first 12 = .ok (.aload_n 1, 1) := by decide +kernel
theorem dX4_first_13 : decode cX4_first 13 = .ok (.getfield 87, 3) := by decide +kernel
theorem dX4_first_16 : decode cX4_first 16 = .ok (.aaload, 1) := by decide +kernel
theorem dX4_first_17 : decode cX4_first 17 = .ok (.aload_n 1, 1) := by decide +kernel
theorem dX4_first_18 : decode cX4_first 18 = .ok (.getfield 80, 3) := by decide +kernel
theorem dX4_first_21 : decode cX4_first 21 = .ok (.aload_n 1, 1) := by decide +kernel
theorem dX4_first_22 : decode cX4_first 22 = .ok (.getfield 71, 3) := by decide +kernel
theorem dX4_first_25 : decode cX4_first 25 = .ok (.invokestatic 89, 3) := by decide +kernel
theorem dX4_first_28 : decode cX4_first 28 = .ok (.iaload, 1) := by decide +kernel
theorem dX4_first_29 : decode cX4_first 29 = .ok (.goto 4, 3) := by decide +kernel
theorem dX4_first_32 : decode cX4_first 32 = .ok (.iconst 0, 1) := by decide +kernel
theorem dX4_first_33 : decode cX4_first 33 = .ok (.ireturn, 1) := by decide +kernel
set_option maxRecDepth 20000 in
theorem ggX4_makesReady_X11_within : GoodIn wsX4_makesReady wsX11_within := goodIn_r _ [8] (by decide +kernel) (by decide +kernel)
set_option maxRecDepth 20000 in
theorem gX4_makesReady_X11_within_n67 : GoodIn wsX4_makesReady (wsX11_within) := ggX4_makesReady_X11_within
set_option maxRecDepth 20000 in
theorem ggX4_makesReady_X4_fillTo : GoodIn wsX4_makesReady wsX4_fillTo := goodIn_r _ [13, 14, 15, 16, 17, 18, 12, 19, 20, 21, 22, 23, 24, 28, 29, 30, 31, 32, 33, 34, 35] (by decide +kernel) (by decide +kernel)
set_option maxRecDepth 20000 in
theorem gX4_makesReady_X4_fillTo : GoodIn wsX4_makesReady (wsV RX4 93 RX4 yX4_fillTo wsX4_fillTo) := goodIn_app (goodIn_of _ (by decide +kernel)) ggX4_makesReady_X4_fillTo
theorem dX4_makesReady_0 : decode cX4_makesReady 0 = .ok (.aload_n 1, 1) := by decide +kernel
theorem dX4_makesReady_1 : decode cX4_makesReady 1 = .ok (.getfield 80, 3) := by decide +kernel
theorem dX4_makesReady_4 : decode cX4_makesReady 4 = .ok (.ifCond .lt 36, 3) := by decide +kernel
theorem dX4_makesReady_7 : decode cX4_makesReady 7 = .ok (.aload_n 1, 1) := by decide +kernel
theorem dX4_makesReady_8 : decode cX4_makesReady 8 = .ok (.getfield 80, 3) := by decide +kernel
theorem dX4_makesReady_11 : decode cX4_makesReady 11 = .ok (.aload_n 1, 1) := by decide +kernel
theorem dX4_makesReady_12 : decode cX4_makesReady 12 = .ok (.getfield 71, 3) := by decide +kernel
theorem dX4_makesReady_15 : decode cX4_makesReady 15 = .ok (.if_icmp .gt 25, 3) := by decide +kernel
theorem dX4_makesReady_18 : decode cX4_makesReady 18 = .ok (.aload_n 1, 1) := by decide +kernel
theorem dX4_makesReady_19 : decode cX4_makesReady 19 = .ok (.getfield 71, 3) := by decide +kernel
theorem dX4_makesReady_22 : decode cX4_makesReady 22 = .ok (.bipush 60, 2) := by decide +kernel
theorem dX4_makesReady_24 : decode cX4_makesReady 24 = .ok (.if_icmp .gt 16, 3) := by decide +kernel
theorem dX4_makesReady_27 : decode cX4_makesReady 27 = .ok (.aload_n 1, 1) := by decide +kernel
theorem dX4_makesReady_28 : decode cX4_makesReady 28 = .ok (.getfield 87, 3) := by decide +kernel
theorem dX4_makesReady_31 : decode cX4_makesReady 31 = .ok (.iconst 0, 1) := by decide +kernel
theorem dX4_makesReady_32 : decode cX4_makesReady 32 = .ok (.bipush 6, 2) := by decide +kernel
theorem dX4_makesReady_34 : decode cX4_makesReady 34 = .ok (.invokestatic 67, 3) := by decide +kernel
theorem dX4_makesReady_37 : decode cX4_makesReady 37 = .ok (.ifCond .ne 5, 3) := by decide +kernel
theorem dX4_makesReady_40 : decode cX4_makesReady 40 = .ok (.iconst 0, 1) := by decide +kernel
theorem dX4_makesReady_41 : decode cX4_makesReady 41 = .ok (.ireturn, 1) := by decide +kernel
theorem dX4_makesReady_42 : decode cX4_makesReady 42 = .ok (.iconst 0, 1) := by decide +kernel
theorem dX4_makesReady_43 : decode cX4_makesReady 43 = .ok (.istore_n 2, 1) := by decide +kernel
theorem dX4_makesReady_44 : decode cX4_makesReady 44 = .ok (.iload_n 2, 1) := by decide +kernel
theorem dX4_makesReady_45 : decode cX4_makesReady 45 = .ok (.aload_n 1, 1) := by decide +kernel
theorem dX4_makesReady_46 : decode cX4_makesReady 46 = .ok (.getfield 87, 3) := by decide +kernel
theorem dX4_makesReady_49 : decode cX4_makesReady 49 = .ok (.if_icmp .gt 57, 3) := by decide +kernel
theorem dX4_makesReady_52 : decode cX4_makesReady 52 = .ok (.aload_n 0, 1) := by decide +kernel
theorem dX4_makesReady_53 : decode cX4_makesReady 53 = .ok (.getfield 26, 3) := by decide +kernel
theorem dX4_makesReady_56 : decode cX4_makesReady 56 = .ok (.iload_n 2, 1) := by decide +kernel
theorem dX4_makesReady_57 : decode cX4_makesReady 57 = .ok (.iaload, 1) := by decide +kernel
theorem dX4_makesReady_58 : decode cX4_makesReady 58 = .ok (.istore_n 3, 1) := by decide +kernel
theorem dX4_makesReady_59 : decode cX4_makesReady 59 = .ok (.iload_n 3, 1) := by decide +kernel
theorem dX4_makesReady_60 : decode cX4_makesReady 60 = .ok (.aload_n 1, 1) := by decide +kernel
theorem dX4_makesReady_61 : decode cX4_makesReady 61 = .ok (.getfield 71, 3) := by decide +kernel
theorem dX4_makesReady_64 : decode cX4_makesReady 64 = .ok (.if_icmp .gt 15, 3) := by decide +kernel
theorem dX4_makesReady_67 : decode cX4_makesReady 67 = .ok (.aload_n 0, 1) := by decide +kernel
theorem dX4_makesReady_68 : decode cX4_makesReady 68 = .ok (.iload_n 2, 1) := by decide +kernel
theorem dX4_makesReady_69 : decode cX4_makesReady 69 = .ok (.iload_n 3, 1) := by decide +kernel
theorem dX4_makesReady_70 : decode cX4_makesReady 70 = .ok (.invokevirtual 93, 3) := by decide +kernel
theorem dX4_makesReady_73 : decode cX4_makesReady 73 = .ok (.iinc 3 1, 3) := by decide +kernel
theorem dX4_makesReady_76 : decode cX4_makesReady 76 = .ok (.goto (-17), 3) := by decide +kernel
theorem dX4_makesReady_79 : decode cX4_makesReady 79 = .ok (.aload_n 0, 1) := by decide +kernel
theorem dX4_makesReady_80 : decode cX4_makesReady 80 = .ok (.getfield 26, 3) := by decide +kernel
theorem dX4_makesReady_83 : decode cX4_makesReady 83 = .ok (.iload_n 2, 1) := by decide +kernel
theorem dX4_makesReady_84 : decode cX4_makesReady 84 = .ok (.aload_n 0, 1) := by decide +kernel
theorem dX4_makesReady_85 : decode cX4_makesReady 85 = .ok (.getfield 26, 3) := by decide +kernel
theorem dX4_makesReady_88 : decode cX4_makesReady 88 = .ok (.iload_n 2, 1) := by decide +kernel
theorem dX4_makesReady_89 : decode cX4_makesReady 89 = .ok (.iaload, 1) := by decide +kernel
theorem dX4_makesReady_90 : decode cX4_makesReady 90 = .ok (.aload_n 1, 1) := by decide +kernel
theorem dX4_makesReady_91 : decode cX4_makesReady 91 = .ok (.getfield 71, 3) := by decide +kernel
theorem dX4_makesReady_94 : decode cX4_makesReady 94 = .ok (.iconst 1, 1) := by decide +kernel
theorem dX4_makesReady_95 : decode cX4_makesReady 95 = .ok (.iadd, 1) := by decide +kernel
theorem dX4_makesReady_96 : decode cX4_makesReady 96 = .ok (.invokestatic 97, 3) := by decide +kernel
theorem dX4_makesReady_99 : decode cX4_makesReady 99 = .ok (.iastore, 1) := by decide +kernel
theorem dX4_makesReady_100 : decode cX4_makesReady 100 = .ok (.iinc 2 1, 3) := by decide +kernel
theorem dX4_makesReady_103 : decode cX4_makesReady 103 = .ok (.goto (-59), 3) := by decide +kernel
theorem dX4_makesReady_106 : decode cX4_makesReady 106 = .ok (.iconst 1, 1) := by decide +kernel
theorem dX4_makesReady_107 : decode cX4_makesReady 107 = .ok (.ireturn, 1) := by decide +kernel
theorem dX4_placeOf_0 : decode cX4_placeOf 0 = .ok (.iload_n 1, 1) := by decide +kernel
theorem dX4_placeOf_1 : decode cX4_placeOf 1 = .ok (.iload_n 1, 1) := by decide +kernel
theorem dX4_placeOf_2 : decode cX4_placeOf 2 = .ok (.iconst 1, 1) := by decide +kernel
theorem dX4_placeOf_3 : decode cX4_placeOf 3 = .ok (.iadd, 1) := by decide +kernel
theorem dX4_placeOf_4 : decode cX4_placeOf 4 = .ok (.imul, 1) := by decide +kernel
theorem dX4_placeOf_5 : decode cX4_placeOf 5 = .ok (.iconst 2, 1) := by decide +kernel
theorem dX4_placeOf_6 : decode cX4_placeOf 6 = .ok (.idiv, 1) := by decide +kernel
theorem dX4_placeOf_7 : decode cX4_placeOf 7 = .ok (.iload_n 0, 1) := by decide +kernel
theorem dX4_placeOf_8 : decode cX4_placeOf 8 = .ok (.iadd, 1) := by decide +kernel
theorem dX4_placeOf_9 : decode cX4_placeOf 9 = .ok (.ireturn, 1) := by decide +kernel
set_option maxRecDepth 20000 in
theorem ggX4_fillTo_X4_placeOf : GoodIn wsX4_fillTo wsX4_placeOf := goodIn_r _ [7] (by decide +kernel) (by decide +kernel)
set_option maxRecDepth 20000 in
theorem gX4_fillTo_X4_placeOf : GoodIn wsX4_fillTo (va_wsS RX4 89 yX4_placeOf wsX4_placeOf) := goodIn_app (goodIn_of _ (by decide +kernel)) ggX4_fillTo_X4_placeOf
set_option maxRecDepth 20000 in
theorem ggX4_fillTo_X4_fill : GoodIn wsX4_fillTo wsX4_fill := goodIn_r _ [11, 2, 12, 4, 5, 6, 7, 13, 14, 15, 16, 17, 18, 19, 20] (by decide +kernel) (by decide +kernel)
set_option maxRecDepth 20000 in
theorem gX4_fillTo_X4_fill : GoodIn wsX4_fillTo (wsV RX4 100 RX4 yX4_fill wsX4_fill) := goodIn_app (goodIn_of _ (by decide +kernel)) ggX4_fillTo_X4_fill
theorem dX4_fillTo_0 : decode cX4_fillTo 0 = .ok (.aload_n 0, 1) := by decide +kernel
theorem dX4_fillTo_1 : decode cX4_fillTo 1 = .ok (.getfield 20, 3) := by decide +kernel
theorem dX4_fillTo_4 : decode cX4_fillTo 4 = .ok (.iload_n 1, 1) := by decide +kernel
theorem dX4_fillTo_5 : decode cX4_fillTo 5 = .ok (.aaload, 1) := by decide +kernel
theorem dX4_fillTo_6 : decode cX4_fillTo 6 = .ok (.iload_n 2, 1) := by decide +kernel
theorem dX4_fillTo_7 : decode cX4_fillTo 7 = .ok (.iload_n 2, 1) := by decide +kernel
theorem dX4_fillTo_8 : decode cX4_fillTo 8 = .ok (.invokestatic 89, 3) := by decide +kernel
theorem dX4_fillTo_11 : decode cX4_fillTo 11 = .ok (.iconst 0, 1) := by decide +kernel
theorem dX4_fillTo_12 : decode cX4_fillTo 12 = .ok (.iastore, 1) := by decide +kernel
theorem dX4_fillTo_13 : decode cX4_fillTo 13 = .ok (.iload_n 2, 1) := by decide +kernel
theorem dX4_fillTo_14 : decode cX4_fillTo 14 = .ok (.iconst 1, 1) := by decide +kernel
theorem dX4_fillTo_15 : decode cX4_fillTo 15 = .ok (.isub, 1) := by decide +kernel
theorem dX4_fillTo_16 : decode cX4_fillTo 16 = .ok (.istore_n 3, 1) := by decide +kernel
theorem dX4_fillTo_17 : decode cX4_fillTo 17 = .ok (.iload_n 3, 1) := by decide +kernel
theorem dX4_fillTo_18 : decode cX4_fillTo 18 = .ok (.ifCond .lt 56, 3) := by decide +kernel
theorem dX4_fillTo_21 : decode cX4_fillTo 21 = .ok (.iload_n 1, 1) := by decide +kernel
theorem dX4_fillTo_22 : decode cX4_fillTo 22 = .ok (.ifCond .ne 20, 3) := by decide +kernel
theorem dX4_fillTo_25 : decode cX4_fillTo 25 = .ok (.aload_n 0, 1) := by decide +kernel
theorem dX4_fillTo_26 : decode cX4_fillTo 26 = .ok (.getfield 20, 3) := by decide +kernel
theorem dX4_fillTo_29 : decode cX4_fillTo 29 = .ok (.iload_n 1, 1) := by decide +kernel
theorem dX4_fillTo_30 : decode cX4_fillTo 30 = .ok (.aaload, 1) := by decide +kernel
theorem dX4_fillTo_31 : decode cX4_fillTo 31 = .ok (.iload_n 3, 1) := by decide +kernel
theorem dX4_fillTo_32 : decode cX4_fillTo 32 = .ok (.iload_n 2, 1) := by decide +kernel
theorem dX4_fillTo_33 : decode cX4_fillTo 33 = .ok (.invokestatic 89, 3) := by decide +kernel
theorem dX4_fillTo_36 : decode cX4_fillTo 36 = .ok (.ldc 92, 2) := by decide +kernel
theorem dX4_fillTo_38 : decode cX4_fillTo 38 = .ok (.iastore, 1) := by decide +kernel
theorem dX4_fillTo_39 : decode cX4_fillTo 39 = .ok (.goto 29, 3) := by decide +kernel
theorem dX4_fillTo_42 : decode cX4_fillTo 42 = .ok (.aload_n 0, 1) := by decide +kernel
theorem dX4_fillTo_43 : decode cX4_fillTo 43 = .ok (.aload_n 0, 1) := by decide +kernel
theorem dX4_fillTo_44 : decode cX4_fillTo 44 = .ok (.getfield 20, 3) := by decide +kernel
theorem dX4_fillTo_47 : decode cX4_fillTo 47 = .ok (.iload_n 1, 1) := by decide +kernel
theorem dX4_fillTo_48 : decode cX4_fillTo 48 = .ok (.iconst 1, 1) := by decide +kernel
theorem dX4_fillTo_49 : decode cX4_fillTo 49 = .ok (.isub, 1) := by decide +kernel
theorem dX4_fillTo_50 : decode cX4_fillTo 50 = .ok (.aaload, 1) := by decide +kernel
theorem dX4_fillTo_51 : decode cX4_fillTo 51 = .ok (.aload_n 0, 1) := by decide +kernel
theorem dX4_fillTo_52 : decode cX4_fillTo 52 = .ok (.getfield 20, 3) := by decide +kernel
theorem dX4_fillTo_55 : decode cX4_fillTo 55 = .ok (.iload_n 1, 1) := by decide +kernel
theorem dX4_fillTo_56 : decode cX4_fillTo 56 = .ok (.aaload, 1) := by decide +kernel
theorem dX4_fillTo_57 : decode cX4_fillTo 57 = .ok (.aload_n 0, 1) := by decide +kernel
theorem dX4_fillTo_58 : decode cX4_fillTo 58 = .ok (.getfield 23, 3) := by decide +kernel
theorem dX4_fillTo_61 : decode cX4_fillTo 61 = .ok (.iload_n 1, 1) := by decide +kernel
theorem dX4_fillTo_62 : decode cX4_fillTo 62 = .ok (.aaload, 1) := by decide +kernel
theorem dX4_fillTo_63 : decode cX4_fillTo 63 = .ok (.iload_n 3, 1) := by decide +kernel
theorem dX4_fillTo_64 : decode cX4_fillTo 64 = .ok (.iload_n 2, 1) := by decide +kernel
theorem dX4_fillTo_65 : decode cX4_fillTo 65 = .ok (.invokevirtual 100, 3) := by decide +kernel
theorem dX4_fillTo_68 : decode cX4_fillTo 68 = .ok (.iinc 3 (-1), 3) := by decide +kernel
theorem dX4_fillTo_71 : decode cX4_fillTo 71 = .ok (.goto (-54), 3) := by decide +kernel
theorem dX4_fillTo_74 : decode cX4_fillTo 74 = .ok (.return_, 1) := by decide +kernel
set_option maxRecDepth 20000 in
theorem ggX4_fill_X4_placeOf : GoodIn wsX4_fill wsX4_placeOf := goodIn_r _ [6] (by decide +kernel) (by decide +kernel)
set_option maxRecDepth 20000 in
theorem gX4_fill_X4_placeOf : GoodIn wsX4_fill (va_wsS RX4 89 yX4_placeOf wsX4_placeOf) := goodIn_app (goodIn_of _ (by decide +kernel)) ggX4_fill_X4_placeOf
theorem dX4_fill_0 : decode cX4_fill 0 = .ok (.ldc 92, 2) := by decide +kernel
theorem dX4_fill_2 : decode cX4_fill 2 = .ok (.istore 6, 2) := by decide +kernel
theorem dX4_fill_4 : decode cX4_fill 4 = .ok (.iload 4, 2) := by decide +kernel
theorem dX4_fill_6 : decode cX4_fill 6 = .ok (.iload 5, 2) := by decide +kernel
theorem dX4_fill_8 : decode cX4_fill 8 = .ok (.invokestatic 89, 3) := by decide +kernel
theorem dX4_fill_11 : decode cX4_fill 11 = .ok (.istore 7, 2) := by decide +kernel
theorem dX4_fill_13 : decode cX4_fill 13 = .ok (.iload 4, 2) := by decide +kernel
theorem dX4_fill_15 : decode cX4_fill 15 = .ok (.iconst 1, 1) := by decide +kernel
theorem dX4_fill_16 : decode cX4_fill 16 = .ok (.iadd, 1) := by decide +kernel
theorem dX4_fill_17 : decode cX4_fill 17 = .ok (.istore 8, 2) := by decide +kernel
theorem dX4_fill_19 : decode cX4_fill 19 = .ok (.iload 8, 2) := by decide +kernel
theorem dX4_fill_21 : decode cX4_fill 21 = .ok (.iload 5, 2) := by decide +kernel
theorem dX4_fill_23 : decode cX4_fill 23 = .ok (.if_icmp .gt 63, 3) := by decide +kernel
theorem dX4_fill_26 : decode cX4_fill 26 = .ok (.aload_n 1, 1) := by decide +kernel
theorem dX4_fill_27 : decode cX4_fill 27 = .ok (.iload 4, 2) := by decide +kernel
theorem dX4_fill_29 : decode cX4_fill 29 = .ok (.iload 8, 2) := by decide +kernel
theorem dX4_fill_31 : decode cX4_fill 31 = .ok (.iconst 1, 1) := by decide +kernel
theorem dX4_fill_32 : decode cX4_fill 32 = .ok (.isub, 1) := by decide +kernel
theorem dX4_fill_33 : decode cX4_fill 33 = .ok (.invokestatic 89, 3) := by decide +kernel
theorem dX4_fill_36 : decode cX4_fill 36 = .ok (.iaload, 1) := by decide +kernel
theorem dX4_fill_37 : decode cX4_fill 37 = .ok (.istore 9, 2) := by decide +kernel
theorem dX4_fill_39 : decode cX4_fill 39 = .ok (.iload 9, 2) := by decide +kernel
theorem dX4_fill_41 : decode cX4_fill 41 = .ok (.iload 6, 2) := by decide +kernel
theorem dX4_fill_43 : decode cX4_fill 43 = .ok (.if_icmp .lt 6, 3) := by decide +kernel
theorem dX4_fill_46 : decode cX4_fill 46 = .ok (.goto 40, 3) := by decide +kernel
theorem dX4_fill_49 : decode cX4_fill 49 = .ok (.iload 9, 2) := by decide +kernel
theorem dX4_fill_51 : decode cX4_fill 51 = .ok (.aload_n 2, 1) := by decide +kernel
theorem dX4_fill_52 : decode cX4_fill 52 = .ok (.iload 8, 2) := by decide +kernel
theorem dX4_fill_54 : decode cX4_fill 54 = .ok (.iload 5, 2) := by decide +kernel
theorem dX4_fill_56 : decode cX4_fill 56 = .ok (.invokestatic 89, 3) := by decide +kernel
theorem dX4_fill_59 : decode cX4_fill 59 = .ok (.iaload, 1) := by decide +kernel
theorem dX4_fill_60 : decode cX4_fill 60 = .ok (.iadd, 1) := by decide +kernel
theorem dX4_fill_61 : decode cX4_fill 61 = .ok (.istore 10, 2) := by decide +kernel
theorem dX4_fill_63 : decode cX4_fill 63 = .ok (.iload 10, 2) := by decide +kernel
theorem dX4_fill_65 : decode cX4_fill 65 = .ok (.iload 6, 2) := by decide +kernel
theorem dX4_fill_67 : decode cX4_fill 67 = .ok (.if_icmp .ge 13, 3) := by decide +kernel
theorem dX4_fill_70 : decode cX4_fill 70 = .ok (.iload 10, 2) := by decide +kernel
theorem dX4_fill_72 : decode cX4_fill 72 = .ok (.istore 6, 2) := by decide +kernel
theorem dX4_fill_74 : decode cX4_fill 74 = .ok (.aload_n 3, 1) := by decide +kernel
theorem dX4_fill_75 : decode cX4_fill 75 = .ok (.iload 7, 2) := by decide +kernel
theorem dX4_fill_77 : decode cX4_fill 77 = .ok (.iload 8, 2) := by decide +kernel
theorem dX4_fill_79 : decode cX4_fill 79 = .ok (.iastore, 1) := by decide +kernel
theorem dX4_fill_80 : decode cX4_fill 80 = .ok (.iinc 8 1, 3) := by decide +kernel
theorem dX4_fill_83 : decode cX4_fill 83 = .ok (.goto (-64), 3) := by decide +kernel
theorem dX4_fill_86 : decode cX4_fill 86 = .ok (.aload_n 2, 1) := by decide +kernel
theorem dX4_fill_87 : decode cX4_fill 87 = .ok (.iload 7, 2) := by decide +kernel
theorem dX4_fill_89 : decode cX4_fill 89 = .ok (.iload 6, 2) := by decide +kernel
theorem dX4_fill_91 : decode cX4_fill 91 = .ok (.aload_n 0, 1) := by decide +kernel
theorem dX4_fill_92 : decode cX4_fill 92 = .ok (.getfield 15, 3) := by decide +kernel
theorem dX4_fill_95 : decode cX4_fill 95 = .ok (.iload 5, 2) := by decide +kernel
theorem dX4_fill_97 : decode cX4_fill 97 = .ok (.iconst 1, 1) := by decide +kernel
theorem dX4_fill_98 : decode cX4_fill 98 = .ok (.iadd, 1) := by decide +kernel
theorem dX4_fill_99 : decode cX4_fill 99 = .ok (.iaload, 1) := by decide +kernel
theorem dX4_fill_100 : decode cX4_fill 100 = .ok (.iadd, 1) := by decide +kernel
theorem dX4_fill_101 : decode cX4_fill 101 = .ok (.aload_n 0, 1) := by decide +kernel
theorem dX4_fill_102 : decode cX4_fill 102 = .ok (.getfield 15, 3) := by decide +kernel
theorem dX4_fill_105 : decode cX4_fill 105 = .ok (.iload 4, 2) := by decide +kernel
theorem dX4_fill_107 : decode cX4_fill 107 = .ok (.iaload, 1) := by decide +kernel
theorem dX4_fill_108 : decode cX4_fill 108 = .ok (.isub, 1) := by decide +kernel
theorem dX4_fill_109 : decode cX4_fill 109 = .ok (.iastore, 1) := by decide +kernel
theorem dX4_fill_110 : decode cX4_fill 110 = .ok (.return_, 1) := by decide +kernel
theorem dX5_init_0 : decode cX5_init 0 = .ok (.aload_n 0, 1) := by decide +kernel
theorem dX5_init_1 : decode cX5_init 1 = .ok (.invokespecial 3, 3) := by decide +kernel
theorem dX5_init_4 : decode cX5_init 4 = .ok (.aload_n 0, 1) := by decide +kernel
theorem dX5_init_5 : decode cX5_init 5 = .ok (.bipush 7, 2) := by decide +kernel
theorem dX5_init_7 : decode cX5_init 7 = .ok (.sipush 1024, 3) := by decide +kernel
theorem dX5_init_10 : decode cX5_init 10 = .ok (.multianewarray 11 2, 4) := by decide +kernel
theorem dX5_init_14 : decode cX5_init 14 = .ok (.putfield 13, 3) := by decide +kernel
theorem dX5_init_17 : decode cX5_init 17 = .ok (.return_, 1) := by decide +kernel
set_option maxRecDepth 20000 in
theorem ggX5_prepare_X5_fill : GoodIn wsX5_prepare wsX5_fill := goodIn_r _ [6, 7, 8, 9, 10, 11, 12, 13, 14, 5, 15, 16, 17, 18, 19, 20, 21, 22, 23, 24, 25, 26, 27, 28] (by decide +kernel) (by decide +kernel)
set_option maxRecDepth 20000 in
theorem gX5_prepare_X5_fill : GoodIn wsX5_prepare (wsV RX5 20 RX5 yX5_fill wsX5_fill) := goodIn_app (goodIn_of _ (by decide +kernel)) ggX5_prepare_X5_fill
theorem dX5_prepare_0 : decode cX5_prepare 0 = .ok (.aload_n 0, 1) := by decide +kernel
theorem dX5_prepare_1 : decode cX5_prepare 1 = .ok (.getfield 16, 3) := by decide +kernel
theorem dX5_prepare_4 : decode cX5_prepare 4 = .ok (.ifCond .eq 4, 3) := by decide +kernel
theorem dX5_prepare_7 : decode cX5_prepare 7 = .ok (.return_, 1) := by decide +kernel
theorem dX5_prepare_8 : decode cX5_prepare 8 = .ok (.aload_n 0, 1) := by decide +kernel
theorem dX5_prepare_9 : decode cX5_prepare 9 = .ok (.iconst 1, 1) := by decide +kernel
theorem dX5_prepare_10 : decode cX5_prepare 10 = .ok (.putfield 16, 3) := by decide +kernel
theorem dX5_prepare_13 : decode cX5_prepare 13 = .ok (.iconst 0, 1) := by decide +kernel
theorem dX5_prepare_14 : decode cX5_prepare 14 = .ok (.istore_n 1, 1) := by decide +kernel
theorem dX5_prepare_15 : decode cX5_prepare 15 = .ok (.iload_n 1, 1) := by decide +kernel
theorem dX5_prepare_16 : decode cX5_prepare 16 = .ok (.bipush 6, 2) := by decide +kernel
theorem dX5_prepare_18 : decode cX5_prepare 18 = .ok (.if_icmp .gt 43, 3) := by decide +kernel
theorem dX5_prepare_21 : decode cX5_prepare 21 = .ok (.iconst 1, 1) := by decide +kernel
theorem dX5_prepare_22 : decode cX5_prepare 22 = .ok (.istore_n 2, 1) := by decide +kernel
theorem dX5_prepare_23 : decode cX5_prepare 23 = .ok (.iload_n 2, 1) := by decide +kernel
theorem dX5_prepare_24 : decode cX5_prepare 24 = .ok (.bipush 32, 2) := by decide +kernel
theorem dX5_prepare_26 : decode cX5_prepare 26 = .ok (.if_icmp .ge 29, 3) := by decide +kernel
theorem dX5_prepare_29 : decode cX5_prepare 29 = .ok (.iconst 1, 1) := by decide +kernel
theorem dX5_prepare_30 : decode cX5_prepare 30 = .ok (.istore_n 3, 1) := by decide +kernel
theorem dX5_prepare_31 : decode cX5_prepare 31 = .ok (.iload_n 3, 1) := by decide +kernel
theorem dX5_prepare_32 : decode cX5_prepare 32 = .ok (.iload_n 2, 1) := by decide +kernel
theorem dX5_prepare_33 : decode cX5_prepare 33 = .ok (.if_icmp .gt 16, 3) := by decide +kernel
theorem dX5_prepare_36 : decode cX5_prepare 36 = .ok (.aload_n 0, 1) := by decide +kernel
theorem dX5_prepare_37 : decode cX5_prepare 37 = .ok (.iload_n 1, 1) := by decide +kernel
theorem dX5_prepare_38 : decode cX5_prepare 38 = .ok (.iload_n 2, 1) := by decide +kernel
theorem dX5_prepare_39 : decode cX5_prepare 39 = .ok (.iload_n 3, 1) := by decide +kernel
theorem dX5_prepare_40 : decode cX5_prepare 40 = .ok (.invokevirtual 20, 3) := by decide +kernel
theorem dX5_prepare_43 : decode cX5_prepare 43 = .ok (.iinc 3 1, 3) := by decide +kernel
theorem dX5_prepare_46 : decode cX5_prepare 46 = .ok (.goto (-15), 3) := by decide +kernel
theorem dX5_prepare_49 : decode cX5_prepare 49 = .ok (.iinc 2 1, 3) := by decide +kernel
theorem dX5_prepare_52 : decode cX5_prepare 52 = .ok (.goto (-29), 3) := by decide +kernel
theorem dX5_prepare_55 : decode cX5_prepare 55 = .ok (.iinc 1 1, 3) := by decide +kernel
theorem dX5_prepare_58 : decode cX5_prepare 58 = .ok (.goto (-43), 3) := by decide +kernel
theorem dX5_prepare_61 : decode cX5_prepare 61 = .ok (.return_, 1) := by decide +kernel
set_option maxRecDepth 20000 in
theorem ggX5_fill_X5_bestIn : GoodIn wsX5_fill wsX5_bestIn := goodIn_r _ [10, 11, 12, 13, 3, 14, 1, 2, 4, 15, 16, 17, 9, 18, 5, 19, 20, 21, 22, 23] (by decide +kernel) (by decide +kernel)
set_option maxRecDepth 20000 in
theorem gX5_fill_X5_bestIn : GoodIn wsX5_fill (wsV RX5 24 RX5 yX5_bestIn wsX5_bestIn) := goodIn_app (goodIn_of _ (by decide +kernel)) ggX5_fill_X5_bestIn
theorem dX5_fill_0 : decode cX5_fill 0 = .ok (.iload_n 2, 1) := by decide +kernel
theorem dX5_fill_1 : decode cX5_fill 1 = .ok (.iconst 1, 1) := by decide +kernel
theorem dX5_fill_2 : decode cX5_fill 2 = .ok (.if_icmp .ne 12, 3) := by decide +kernel
theorem dX5_fill_5 : decode cX5_fill 5 = .ok (.iload_n 3, 1) := by decide +kernel
theorem dX5_fill_6 : decode cX5_fill 6 = .ok (.iconst 1, 1) := by decide +kernel
theorem dX5_fill_7 : decode cX5_fill 7 = .ok (.if_icmp .ne 7, 3) := by decide +kernel
theorem dX5_fill_10 : decode cX5_fill 10 = .ok (.iconst 0, 1) := by decide +kernel
theorem dX5_fill_11 : decode cX5_fill 11 = .ok (.goto 20, 3) := by decide +kernel
theorem dX5_fill_14 : decode cX5_fill 14 = .ok (.aload_n 0, 1) := by decide +kernel
theorem dX5_fill_15 : decode cX5_fill 15 = .ok (.iload_n 1, 1) := by decide +kernel
theorem dX5_fill_16 : decode cX5_fill 16 = .ok (.iload_n 2, 1) := by decide +kernel
theorem dX5_fill_17 : decode cX5_fill 17 = .ok (.iload_n 3, 1) := by decide +kernel
theorem dX5_fill_18 : decode cX5_fill 18 = .ok (.invokevirtual 24, 3) := by decide +kernel
theorem dX5_fill_21 : decode cX5_fill 21 = .ok (.aload_n 0, 1) := by decide +kernel
theorem dX5_fill_22 : decode cX5_fill 22 = .ok (.iload_n 1, 1) := by decide +kernel
theorem dX5_fill_23 : decode cX5_fill 23 = .ok (.iload_n 3, 1) := by decide +kernel
theorem dX5_fill_24 : decode cX5_fill 24 = .ok (.iload_n 2, 1) := by decide +kernel
theorem dX5_fill_25 : decode cX5_fill 25 = .ok (.invokevirtual 24, 3) := by decide +kernel
theorem dX5_fill_28 : decode cX5_fill 28 = .ok (.invokestatic 28, 3) := by decide +kernel
theorem dX5_fill_31 : decode cX5_fill 31 = .ok (.istore 4, 2) := by decide +kernel
theorem dX5_fill_33 : decode cX5_fill 33 = .ok (.aload_n 0, 1) := by decide +kernel
theorem dX5_fill_34 : decode cX5_fill 34 = .ok (.getfield 13, 3) := by decide +kernel
theorem dX5_fill_37 : decode cX5_fill 37 = .ok (.iload_n 1, 1) := by decide +kernel
theorem dX5_fill_38 : decode cX5_fill 38 = .ok (.aaload, 1) := by decide +kernel
theorem dX5_fill_39 : decode cX5_fill 39 = .ok (.iload_n 2, 1) := by decide +kernel
theorem dX5_fill_40 : decode cX5_fill 40 = .ok (.bipush 32, 2) := by decide +kernel
theorem dX5_fill_42 : decode cX5_fill 42 = .ok (.imul, 1) := by decide +kernel
theorem dX5_fill_43 : decode cX5_fill 43 = .ok (.iload_n 3, 1) := by decide +kernel
theorem dX5_fill_44 : decode cX5_fill 44 = .ok (.iadd, 1) := by decide +kernel
theorem dX5_fill_45 : decode cX5_fill 45 = .ok (.iload 4, 2) := by decide +kernel
theorem dX5_fill_47 : decode cX5_fill 47 = .ok (.iastore, 1) := by decide +kernel
theorem dX5_fill_48 : decode cX5_fill 48 = .ok (.aload_n 0, 1) := by decide +kernel
theorem dX5_fill_49 : decode cX5_fill 49 = .ok (.getfield 13, 3) := by decide +kernel
theorem dX5_fill_52 : decode cX5_fill 52 = .ok (.iload_n 1, 1) := by decide +kernel
theorem dX5_fill_53 : decode cX5_fill 53 = .ok (.aaload, 1) := by decide +kernel
theorem dX5_fill_54 : decode cX5_fill 54 = .ok (.iload_n 3, 1) := by decide +kernel
theorem dX5_fill_55 : decode cX5_fill 55 = .ok (.bipush 32, 2) := by decide +kernel
theorem dX5_fill_57 : decode cX5_fill 57 = .ok (.imul, 1) := by decide +kernel
theorem dX5_fill_58 : decode cX5_fill 58 = .ok (.iload_n 2, 1) := by decide +kernel
theorem dX5_fill_59 : decode cX5_fill 59 = .ok (.iadd, 1) := by decide +kernel
theorem dX5_fill_60 : decode cX5_fill 60 = .ok (.iload 4, 2) := by decide +kernel
theorem dX5_fill_62 : decode cX5_fill 62 = .ok (.iastore, 1) := by decide +kernel
theorem dX5_fill_63 : decode cX5_fill 63 = .ok (.return_, 1) := by decide +kernel
set_option maxRecDepth 20000 in
theorem ggX5_need_X11_within : GoodIn wsX5_need wsX11_within := goodIn_r _ [5] (by decide +kernel) (by decide +kernel)
set_option maxRecDepth 20000 in
theorem gX5_need_X11_within_n34 : GoodIn wsX5_need (wsX11_within) := ggX5_need_X11_within
theorem dX5_need_0 : decode cX5_need 0 = .ok (.iload_n 1, 1) := by decide +kernel
theorem dX5_need_1 : decode cX5_need 1 = .ok (.iconst 0, 1) := by decide +kernel
theorem dX5_need_2 : decode cX5_need 2 = .ok (.bipush 6, 2) := by decide +kernel
theorem dX5_need_4 : decode cX5_need 4 = .ok (.invokestatic 34, 3) := by decide +kernel
theorem dX5_need_7 : decode cX5_need 7 = .ok (.ifCond .eq 23, 3) := by decide +kernel
theorem dX5_need_10 : decode cX5_need 10 = .ok (.iload_n 2, 1) := by decide +kernel
theorem dX5_need_11 : decode cX5_need 11 = .ok (.iconst 1, 1) := by decide +kernel
theorem dX5_need_12 : decode cX5_need 12 = .ok (.bipush 31, 2) := by decide +kernel
theorem dX5_need_14 : decode cX5_need 14 = .ok (.invokestatic 34, 3) := by decide +kernel
theorem dX5_need_17 : decode cX5_need 17 = .ok (.ifCond .eq 13, 3) := by decide +kernel
theorem dX5_need_20 : decode cX5_need 20 = .ok (.iload_n 3, 1) := by decide +kernel
theorem dX5_need_21 : decode cX5_need 21 = .ok (.iconst 1, 1) := by decide +kernel
theorem dX5_need_22 : decode cX5_need 22 = .ok (.bipush 31, 2) := by decide +kernel
theorem dX5_need_24 : decode cX5_need 24 = .ok (.invokestatic 34, 3) := by decide +kernel
theorem dX5_need_27 : decode cX5_need 27 = .ok (.ifCond .ne 6, 3) := by decide +kernel
theorem dX5_need_30 : decode cX5_need 30 = .ok (.ldc 38, 2) := by decide +kernel
theorem dX5_need_32 : decode cX5_need 32 = .ok (.ireturn, 1) := by decide +kernel
theorem dX5_need_33 : decode cX5_need 33 = .ok (.aload_n 0, 1) := by decide +kernel
theorem dX5_need_34 : decode cX5_need 34 = .ok (.getfield 13, 3) := by decide +kernel
theorem dX5_need_37 : decode cX5_need 37 = .ok (.iload_n 1, 1) := by decide +kernel
theorem dX5_need_38 : decode cX5_need 38 = .ok (.aaload, 1) := by decide +kernel
theorem dX5_need_39 : decode cX5_need 39 = .ok (.iload_n 2, 1) := by decide +kernel
theorem dX5_need_40 : decode cX5_need 40 = .ok (.bipush 32, 2) := by decide +kernel
theorem dX5_need_42 : decode cX5_need 42 = .ok (.imul, 1) := by decide +kernel
theorem dX5_need_43 : decode cX5_need 43 = .ok (.iload_n 3, 1) := by decide +kernel
theorem dX5_need_44 : decode cX5_need 44 = .ok (.iadd, 1) := by decide +kernel
theorem dX5_need_45 : decode cX5_need 45 = .ok (.iaload, 1) := by decide +kernel
theorem dX5_need_46 : decode cX5_need 46 = .ok (.ireturn, 1) := by decide +kernel
set_option maxRecDepth 20000 in
theorem ggX5_bestIn_X5_need : GoodIn wsX5_bestIn wsX5_need := goodIn_r _ [13, 1, 14, 15, 16, 17, 18, 19] (by decide +kernel) (by decide +kernel)
set_option maxRecDepth 20000 in
theorem gX5_bestIn_X5_need : GoodIn wsX5_bestIn (wsV RX5 39 RX5 yX5_need wsX5_need) := goodIn_app (goodIn_of _ (by decide +kernel)) ggX5_bestIn_X5_need
theorem dX5_bestIn_0 : decode cX5_bestIn 0 = .ok (.ldc 38, 2) := by decide +kernel
theorem dX5_bestIn_2 : decode cX5_bestIn 2 = .ok (.istore 4, 2) := by decide +kernel
theorem dX5_bestIn_4 : decode cX5_bestIn 4 = .ok (.iconst 1, 1) := by decide +kernel
theorem dX5_bestIn_5 : decode cX5_bestIn 5 = .ok (.istore 5, 2) := by decide +kernel
theorem dX5_bestIn_7 : decode cX5_bestIn 7 = .ok (.iload 5, 2) := by decide +kernel
theorem dX5_bestIn_9 : decode cX5_bestIn 9 = .ok (.iload_n 2, 1) := by decide +kernel
theorem dX5_bestIn_10 : decode cX5_bestIn 10 = .ok (.if_icmp .ge 59, 3) := by decide +kernel
theorem dX5_bestIn_13 : decode cX5_bestIn 13 = .ok (.aload_n 0, 1) := by decide +kernel
theorem dX5_bestIn_14 : decode cX5_bestIn 14 = .ok (.iload_n 1, 1) := by decide +kernel
theorem dX5_bestIn_15 : decode cX5_bestIn 15 = .ok (.iconst 1, 1) := by decide +kernel
theorem dX5_bestIn_16 : decode cX5_bestIn 16 = .ok (.isub, 1) := by decide +kernel
theorem dX5_bestIn_17 : decode cX5_bestIn 17 = .ok (.iload 5, 2) := by decide +kernel
theorem dX5_bestIn_19 : decode cX5_bestIn 19 = .ok (.iload_n 3, 1) := by decide +kernel
theorem dX5_bestIn_20 : decode cX5_bestIn 20 = .ok (.invokevirtual 39, 3) := by decide +kernel
theorem dX5_bestIn_23 : decode cX5_bestIn 23 = .ok (.istore 6, 2) := by decide +kernel
theorem dX5_bestIn_25 : decode cX5_bestIn 25 = .ok (.aload_n 0, 1) := by decide +kernel
theorem dX5_bestIn_26 : decode cX5_bestIn 26 = .ok (.iload_n 1, 1) := by decide +kernel
theorem dX5_bestIn_27 : decode cX5_bestIn 27 = .ok (.iload_n 2, 1) := by decide +kernel
theorem dX5_bestIn_28 : decode cX5_bestIn 28 = .ok (.iload 5, 2) := by decide +kernel
theorem dX5_bestIn_30 : decode cX5_bestIn 30 = .ok (.isub, 1) := by decide +kernel
theorem dX5_bestIn_31 : decode cX5_bestIn 31 = .ok (.iload_n 3, 1) := by decide +kernel
theorem dX5_bestIn_32 : decode cX5_bestIn 32 = .ok (.invokevirtual 39, 3) := by decide +kernel
theorem dX5_bestIn_35 : decode cX5_bestIn 35 = .ok (.istore 7, 2) := by decide +kernel
theorem dX5_bestIn_37 : decode cX5_bestIn 37 = .ok (.iload 4, 2) := by decide +kernel
theorem dX5_bestIn_39 : decode cX5_bestIn 39 = .ok (.iconst 1, 1) := by decide +kernel
theorem dX5_bestIn_40 : decode cX5_bestIn 40 = .ok (.iload 6, 2) := by decide +kernel
theorem dX5_bestIn_42 : decode cX5_bestIn 42 = .ok (.iload 7, 2) := by decide +kernel
theorem dX5_bestIn_44 : decode cX5_bestIn 44 = .ok (.invokestatic 42, 3) := by decide +kernel
theorem dX5_bestIn_47 : decode cX5_bestIn 47 = .ok (.iadd, 1) := by decide +kernel
theorem dX5_bestIn_48 : decode cX5_bestIn 48 = .ok (.invokestatic 28, 3) := by decide +kernel
theorem dX5_bestIn_51 : decode cX5_bestIn 51 = .ok (.istore 4, 2) := by decide +kernel
theorem dX5_bestIn_53 : decode cX5_bestIn 53 = .ok (.iload 6, 2) := by decide +kernel
theorem dX5_bestIn_55 : decode cX5_bestIn 55 = .ok (.iload 7, 2) := by decide +kernel
theorem dX5_bestIn_57 : decode cX5_bestIn 57 = .ok (.if_icmp .lt 6, 3) := by decide +kernel
theorem dX5_bestIn_60 : decode cX5_bestIn 60 = .ok (.goto 9, 3) := by decide +kernel
theorem dX5_bestIn_63 : decode cX5_bestIn 63 = .ok (.iinc 5 1, 3) := by decide +kernel
theorem dX5_bestIn_66 : decode cX5_bestIn 66 = .ok (.goto (-59), 3) := by decide +kernel
theorem dX5_bestIn_69 : decode cX5_bestIn 69 = .ok (.iload 4, 2) := by decide +kernel
theorem dX5_bestIn_71 : decode cX5_bestIn 71 = .ok (.ireturn, 1) := by decide +kernel
theorem dX6_init_0 : decode cX6_init 0 = .ok (.aload_n 0, 1) := by decide +kernel
theorem dX6_init_1 : decode cX6_init 1 = .ok (.invokespecial 3, 3) := by decide +kernel
theorem dX6_init_4 : decode cX6_init 4 = .ok (.aload_n 0, 1) := by decide +kernel
theorem dX6_init_5 : decode cX6_init 5 = .ok (.bipush 60, 2) := by decide +kernel
theorem dX6_init_7 : decode cX6_init 7 = .ok (.newarray .long, 2) := by decide +kernel
theorem dX6_init_9 : decode cX6_init 9 = .ok (.putfield 9, 3) := by decide +kernel
theorem dX6_init_12 : decode cX6_init 12 = .ok (.aload_n 0, 1) := by decide +kernel
theorem dX6_init_13 : decode cX6_init 13 = .ok (.iconst (-1), 1) := by decide +kernel
theorem dX6_init_14 : decode cX6_init 14 = .ok (.putfield 15, 3) := by decide +kernel
theorem dX6_init_17 : decode cX6_init 17 = .ok (.aload_n 0, 1) := by decide +kernel
theorem dX6_init_18 : decode cX6_init 18 = .ok (.iconst (-1), 1) := by decide +kernel
theorem dX6_init_19 : decode cX6_init 19 = .ok (.putfield 19, 3) := by decide +kernel
theorem dX6_init_22 : decode cX6_init 22 = .ok (.return_, 1) := by decide +kernel
theorem dX6_isEmpty_0 : decode cX6_isEmpty 0 = .ok (.aload_n 0, 1) := by decide +kernel
theorem dX6_isEmpty_1 : decode cX6_isEmpty 1 = .ok (.getfield 15, 3) := by decide +kernel
theorem dX6_isEmpty_4 : decode cX6_isEmpty 4 = .ok (.iconst (-1), 1) := by decide +kernel
theorem dX6_isEmpty_5 : decode cX6_isEmpty 5 = .ok (.if_icmp .ne 15, 3) := by decide +kernel
theorem dX6_isEmpty_8 : decode cX6_isEmpty 8 = .ok (.aload_n 0, 1) := by decide +kernel
theorem dX6_isEmpty_9 : decode cX6_isEmpty 9 = .ok (.getfield 19, 3) := by decide +kernel
theorem dX6_isEmpty_12 : decode cX6_isEmpty 12 = .ok (.iconst (-1), 1) := by decide +kernel
theorem dX6_isEmpty_13 : decode cX6_isEmpty 13 = .ok (.if_icmp .ne 7, 3) := by decide +kernel
theorem dX6_isEmpty_16 : decode cX6_isEmpty 16 = .ok (.iconst 1, 1) := by decide +kernel
theorem dX6_isEmpty_17 : decode cX6_isEmpty 17 = .ok (.goto 4, 3) := by decide +kernel
theorem dX6_isEmpty_20 : decode cX6_isEmpty 20 = .ok (.iconst 0, 1) := by decide +kernel
theorem dX6_isEmpty_21 : decode cX6_isEmpty 21 = .ok (.ireturn, 1) := by decide +kernel
theorem dX6_isRow_0 : decode cX6_isRow 0 = .ok (.aload_n 0, 1) := by decide +kernel
theorem dX6_isRow_1 : decode cX6_isRow 1 = .ok (.getfield 19, 3) := by decide +kernel
theorem dX6_isRow_4 : decode cX6_isRow 4 = .ok (.iconst (-1), 1) := by decide +kernel
theorem dX6_isRow_5 : decode cX6_isRow 5 = .ok (.if_icmp .eq 7, 3) := by decide +kernel
theorem dX6_isRow_8 : decode cX6_isRow 8 = .ok (.iconst 1, 1) := by decide +kernel
theorem dX6_isRow_9 : decode cX6_isRow 9 = .ok (.goto 4, 3) := by decide +kernel
theorem dX6_isRow_12 : decode cX6_isRow 12 = .ok (.iconst 0, 1) := by decide +kernel
theorem dX6_isRow_13 : decode cX6_isRow 13 = .ok (.ireturn, 1) := by decide +kernel
theorem dX6_holdBody_0 : decode cX6_holdBody 0 = .ok (.aload_n 0, 1) := by decide +kernel
theorem dX6_holdBody_1 : decode cX6_holdBody 1 = .ok (.iload_n 1, 1) := by decide +kernel
theorem dX6_holdBody_2 : decode cX6_holdBody 2 = .ok (.putfield 15, 3) := by decide +kernel
theorem dX6_holdBody_5 : decode cX6_holdBody 5 = .ok (.aload_n 0, 1) := by decide +kernel
theorem dX6_holdBody_6 : decode cX6_holdBody 6 = .ok (.iconst (-1), 1) := by decide +kernel
theorem dX6_holdBody_7 : decode cX6_holdBody 7 = .ok (.putfield 19, 3) := by decide +kernel
theorem dX6_holdBody_10 : decode cX6_holdBody 10 = .ok (.aload_n 0, 1) := by decide +kernel
theorem dX6_holdBody_11 : decode cX6_holdBody 11 = .ok (.iconst 0, 1) := by decide +kernel
theorem dX6_holdBody_12 : decode cX6_holdBody 12 = .ok (.putfield 22, 3) := by decide +kernel
theorem dX6_holdBody_15 : decode cX6_holdBody 15 = .ok (.return_, 1) := by decide +kernel
set_option maxRecDepth 20000 in
theorem ggX6_holdRow_J7_fill_d0a16 : GoodIn wsX6_holdRow wsJ7_fill_d0a16 := goodIn_r _ [8] (by decide +kernel) (by decide +kernel)
set_option maxRecDepth 20000 in
theorem gX6_holdRow_J7_fill_d0a16 : GoodIn wsX6_holdRow (va_wsS RX6 25 yJ7_fill_d0a16 wsJ7_fill_d0a16) := goodIn_app (goodIn_of _ (by decide +kernel)) ggX6_holdRow_J7_fill_d0a16
theorem dX6_holdRow_0 : decode cX6_holdRow 0 = .ok (.aload_n 0, 1) := by decide +kernel
theorem dX6_holdRow_1 : decode cX6_holdRow 1 = .ok (.iconst (-1), 1) := by decide +kernel
theorem dX6_holdRow_2 : decode cX6_holdRow 2 = .ok (.putfield 15, 3) := by decide +kernel
theorem dX6_holdRow_5 : decode cX6_holdRow 5 = .ok (.aload_n 0, 1) := by decide +kernel
theorem dX6_holdRow_6 : decode cX6_holdRow 6 = .ok (.iload_n 1, 1) := by decide +kernel
theorem dX6_holdRow_7 : decode cX6_holdRow 7 = .ok (.putfield 19, 3) := by decide +kernel
theorem dX6_holdRow_10 : decode cX6_holdRow 10 = .ok (.aload_n 0, 1) := by decide +kernel
theorem dX6_holdRow_11 : decode cX6_holdRow 11 = .ok (.iload_n 2, 1) := by decide +kernel
theorem dX6_holdRow_12 : decode cX6_holdRow 12 = .ok (.putfield 22, 3) := by decide +kernel
theorem dX6_holdRow_15 : decode cX6_holdRow 15 = .ok (.aload_n 0, 1) := by decide +kernel
theorem dX6_holdRow_16 : decode cX6_holdRow 16 = .ok (.getfield 9, 3) := by decide +kernel
theorem dX6_holdRow_19 : decode cX6_holdRow 19 = .ok (.lconst 0, 1) := by decide +kernel
theorem dX6_holdRow_20 : decode cX6_holdRow 20 = .ok (.invokestatic 25, 3) := by decide +kernel
theorem dX6_holdRow_23 : decode cX6_holdRow 23 = .ok (.return_, 1) := by decide +kernel
theorem dX6_hasPlaces_0 : decode cX6_hasPlaces 0 = .ok (.iload_n 1, 1) := by decide +kernel
theorem dX6_hasPlaces_1 : decode cX6_hasPlaces 1 = .ok (.ifCond .lt 21, 3) := by decide +kernel
theorem dX6_hasPlaces_4 : decode cX6_hasPlaces 4 = .ok (.iload_n 2, 1) := by decide +kernel
theorem dX6_hasPlaces_5 : decode cX6_hasPlaces 5 = .ok (.ifCond .lt 17, 3) := by decide +kernel
theorem dX6_hasPlaces_8 : decode cX6_hasPlaces 8 = .ok (.iload_n 1, 1) := by decide +kernel
theorem dX6_hasPlaces_9 : decode cX6_hasPlaces 9 = .ok (.aload_n 0, 1) := by decide +kernel
theorem dX6_hasPlaces_10 : decode cX6_hasPlaces 10 = .ok (.getfield 22, 3) := by decide +kernel
theorem dX6_hasPlaces_13 : decode cX6_hasPlaces 13 = .ok (.iload_n 2, 1) := by decide +kernel
theorem dX6_hasPlaces_14 : decode cX6_hasPlaces 14 = .ok (.isub, 1) := by decide +kernel
theorem dX6_hasPlaces_15 : decode cX6_hasPlaces 15 = .ok (.if_icmp .gt 7, 3) := by decide +kernel
theorem dX6_hasPlaces_18 : decode cX6_hasPlaces 18 = .ok (.iconst 1, 1) := by decide +kernel
theorem dX6_hasPlaces_19 : decode cX6_hasPlaces 19 = .ok (.goto 4, 3) := by decide +kernel
theorem dX6_hasPlaces_22 : decode cX6_hasPlaces 22 = .ok (.iconst 0, 1) := by decide +kernel
theorem dX6_hasPlaces_23 : decode cX6_hasPlaces 23 = .ok (.ireturn, 1) := by decide +kernel
theorem dX6_get_0 : decode cX6_get 0 = .ok (.iload_n 1, 1) := by decide +kernel
theorem dX6_get_1 : decode cX6_get 1 = .ok (.ifCond .lt 20, 3) := by decide +kernel
theorem dX6_get_4 : decode cX6_get 4 = .ok (.iload_n 1, 1) := by decide +kernel
theorem dX6_get_5 : decode cX6_get 5 = .ok (.aload_n 0, 1) := by decide +kernel
theorem dX6_get_6 : decode cX6_get 6 = .ok (.getfield 22, 3) := by decide +kernel
theorem dX6_get_9 : decode cX6_get 9 = .ok (.if_icmp .ge 12, 3) := by decide +kernel
theorem dX6_get_12 : decode cX6_get 12 = .ok (.aload_n 0, 1) := by decide +kernel
theorem dX6_get_13 : decode cX6_get 13 = .ok (.getfield 9, 3) := by decide +kernel
theorem dX6_get_16 : decode cX6_get 16 = .ok (.iload_n 1, 1) := by decide +kernel
theorem dX6_get_17 : decode cX6_get 17 = .ok (.laload, 1) := by decide +kernel
theorem dX6_get_18 : decode cX6_get 18 = .ok (.goto 4, 3) := by decide +kernel
theorem dX6_get_21 : decode cX6_get 21 = .ok (.lconst 0, 1) := by decide +kernel
theorem dX6_get_22 : decode cX6_get 22 = .ok (.lreturn, 1) := by decide +kernel
set_option maxRecDepth 20000 in
theorem ggX6_set_X6_lowest : GoodIn wsX6_set wsX6_lowest := goodIn_r _ [7, 8, 9, 10, 11, 12] (by decide +kernel) (by decide +kernel)
set_option maxRecDepth 20000 in
theorem gX6_set_X6_lowest : GoodIn wsX6_set (wsV RX6 31 RX6 yX6_lowest wsX6_lowest) := goodIn_app (goodIn_of _ (by decide +kernel)) ggX6_set_X6_lowest
theorem dX6_set_0 : decode cX6_set 0 = .ok (.iload_n 1, 1) := by decide +kernel
theorem dX6_set_1 : decode cX6_set 1 = .ok (.ifCond .lt 22, 3) := by decide +kernel
theorem dX6_set_4 : decode cX6_set 4 = .ok (.iload_n 1, 1) := by decide +kernel
theorem dX6_set_5 : decode cX6_set 5 = .ok (.aload_n 0, 1) := by decide +kernel
theorem dX6_set_6 : decode cX6_set 6 = .ok (.getfield 22, 3) := by decide +kernel
theorem dX6_set_9 : decode cX6_set 9 = .ok (.if_icmp .ge 14, 3) := by decide +kernel
theorem dX6_set_12 : decode cX6_set 12 = .ok (.aload_n 0, 1) := by decide +kernel
theorem dX6_set_13 : decode cX6_set 13 = .ok (.getfield 9, 3) := by decide +kernel
theorem dX6_set_16 : decode cX6_set 16 = .ok (.iload_n 1, 1) := by decide +kernel
theorem dX6_set_17 : decode cX6_set 17 = .ok (.aload_n 0, 1) := by decide +kernel
theorem dX6_set_18 : decode cX6_set 18 = .ok (.lload_n 2, 1) := by decide +kernel
theorem dX6_set_19 : decode cX6_set 19 = .ok (.invokevirtual 31, 3) := by decide +kernel
theorem dX6_set_22 : decode cX6_set 22 = .ok (.lastore, 1) := by decide +kernel
theorem dX6_set_23 : decode cX6_set 23 = .ok (.return_, 1) := by decide +kernel
theorem dX6_lowest_0 : decode cX6_lowest 0 = .ok (.aload_n 0, 1) := by decide +kernel
theorem dX6_lowest_1 : decode cX6_lowest 1 = .ok (.getfield 19, 3) := by decide +kernel
theorem dX6_lowest_4 : decode cX6_lowest 4 = .ok (.tableswitch 48 0 3 #[32, 37, 42, 46], 32) := by decide +kernel
theorem dX6_lowest_36 : decode cX6_lowest 36 = .ok (.lload_n 1, 1) := by decide +kernel
theorem dX6_lowest_37 : decode cX6_lowest 37 = .ok (.l2i, 1) := by decide +kernel
theorem dX6_lowest_38 : decode cX6_lowest 38 = .ok (.i2b, 1) := by decide +kernel
theorem dX6_lowest_39 : decode cX6_lowest 39 = .ok (.i2l, 1) := by decide +kernel
theorem dX6_lowest_40 : decode cX6_lowest 40 = .ok (.lreturn, 1) := by decide +kernel
theorem dX6_lowest_41 : decode cX6_lowest 41 = .ok (.lload_n 1, 1) := by decide +kernel
theorem dX6_lowest_42 : decode cX6_lowest 42 = .ok (.l2i, 1) := by decide +kernel
theorem dX6_lowest_43 : decode cX6_lowest 43 = .ok (.i2s, 1) := by decide +kernel
theorem dX6_lowest_44 : decode cX6_lowest 44 = .ok (.i2l, 1) := by decide +kernel
theorem dX6_lowest_45 : decode cX6_lowest 45 = .ok (.lreturn, 1) := by decide +kernel
theorem dX6_lowest_46 : decode cX6_lowest 46 = .ok (.lload_n 1, 1) := by decide +kernel
theorem dX6_lowest_47 : decode cX6_lowest 47 = .ok (.l2i, 1) := by decide +kernel
theorem dX6_lowest_48 : decode cX6_lowest 48 = .ok (.i2l, 1) := by decide +kernel
theorem dX6_lowest_49 : decode cX6_lowest 49 = .ok (.lreturn, 1) := by decide +kernel
theorem dX6_lowest_50 : decode cX6_lowest 50 = .ok (.lload_n 1, 1) := by decide +kernel
theorem dX6_lowest_51 : decode cX6_lowest 51 = .ok (.lreturn, 1) := by decide +kernel
theorem dX6_lowest_52 : decode cX6_lowest 52 = .ok (.lload_n 1, 1) := by decide +kernel
theorem dX6_lowest_53 : decode cX6_lowest 53 = .ok (.lconst 0, 1) := by decide +kernel
theorem dX6_lowest_54 : decode cX6_lowest 54 = .ok (.lcmp, 1) := by decide +kernel
theorem dX6_lowest_55 : decode cX6_lowest 55 = .ok (.ifCond .eq 7, 3) := by decide +kernel
theorem dX6_lowest_58 : decode cX6_lowest 58 = .ok (.lconst 1, 1) := by decide +kernel
theorem dX6_lowest_59 : decode cX6_lowest 59 = .ok (.goto 4, 3) := by decide +kernel
theorem dX6_lowest_62 : decode cX6_lowest 62 = .ok (.lconst 0, 1) := by decide +kernel
theorem dX6_lowest_63 : decode cX6_lowest 63 = .ok (.lreturn, 1) := by decide +kernel
theorem dX7_init_0 : decode cX7_init 0 = .ok (.aload_n 0, 1) := by decide +kernel
theorem dX7_init_1 : decode cX7_init 1 = .ok (.invokespecial 1, 3) := by decide +kernel
theorem dX7_init_4 : decode cX7_init 4 = .ok (.return_, 1) := by decide +kernel
theorem dX7_become_0 : decode cX7_become 0 = .ok (.aload_n 0, 1) := by decide +kernel
theorem dX7_become_1 : decode cX7_become 1 = .ok (.iload_n 1, 1) := by decide +kernel
theorem dX7_become_2 : decode cX7_become 2 = .ok (.putfield 7, 3) := by decide +kernel
theorem dX7_become_5 : decode cX7_become 5 = .ok (.aload_n 0, 1) := by decide +kernel
theorem dX7_become_6 : decode cX7_become 6 = .ok (.iload_n 2, 1) := by decide +kernel
theorem dX7_become_7 : decode cX7_become 7 = .ok (.putfield 13, 3) := by decide +kernel
theorem dX7_become_10 : decode cX7_become 10 = .ok (.aload_n 0, 1) := by decide +kernel
theorem dX7_become_11 : decode cX7_become 11 = .ok (.iload_n 3, 1) := by decide +kernel
theorem dX7_become_12 : decode cX7_become 12 = .ok (.putfield 16, 3) := by decide +kernel
theorem dX7_become_15 : decode cX7_become 15 = .ok (.return_, 1) := by decide +kernel
theorem dX7_isSure_0 : decode cX7_isSure 0 = .ok (.aload_n 0, 1) := by decide +kernel
theorem dX7_isSure_1 : decode cX7_isSure 1 = .ok (.getfield 7, 3) := by decide +kernel
theorem dX7_isSure_4 : decode cX7_isSure 4 = .ok (.aload_n 0, 1) := by decide +kernel
theorem dX7_isSure_5 : decode cX7_isSure 5 = .ok (.getfield 13, 3) := by decide +kernel
theorem dX7_isSure_8 : decode cX7_isSure 8 = .ok (.if_icmp .ne 7, 3) := by decide +kernel
theorem dX7_isSure_11 : decode cX7_isSure 11 = .ok (.iconst 1, 1) := by decide +kernel
theorem dX7_isSure_12 : decode cX7_isSure 12 = .ok (.goto 4, 3) := by decide +kernel
theorem dX7_isSure_15 : decode cX7_isSure 15 = .ok (.iconst 0, 1) := by decide +kernel
theorem dX7_isSure_16 : decode cX7_isSure 16 = .ok (.ireturn, 1) := by decide +kernel
theorem dX7_heights_0 : decode cX7_heights 0 = .ok (.aload_n 0, 1) := by decide +kernel
theorem dX7_heights_1 : decode cX7_heights 1 = .ok (.getfield 13, 3) := by decide +kernel
theorem dX7_heights_4 : decode cX7_heights 4 = .ok (.aload_n 0, 1) := by decide +kernel
theorem dX7_heights_5 : decode cX7_heights 5 = .ok (.getfield 7, 3) := by decide +kernel
theorem dX7_heights_8 : decode cX7_heights 8 = .ok (.isub, 1) := by decide +kernel
theorem dX7_heights_9 : decode cX7_heights 9 = .ok (.iconst 1, 1) := by decide +kernel
theorem dX7_heights_10 : decode cX7_heights 10 = .ok (.iadd, 1) := by decide +kernel
theorem dX7_heights_11 : decode cX7_heights 11 = .ok (.ireturn, 1) := by decide +kernel
theorem dX7_part_0 : decode cX7_part 0 = .ok (.iload_n 2, 1) := by decide +kernel
theorem dX7_part_1 : decode cX7_part 1 = .ok (.ifCond .eq 30, 3) := by decide +kernel
theorem dX7_part_4 : decode cX7_part 4 = .ok (.aload_n 0, 1) := by decide +kernel
theorem dX7_part_5 : decode cX7_part 5 = .ok (.aload_n 0, 1) := by decide +kernel
theorem dX7_part_6 : decode cX7_part 6 = .ok (.getfield 13, 3) := by decide +kernel
theorem dX7_part_9 : decode cX7_part 9 = .ok (.iload_n 1, 1) := by decide +kernel
theorem dX7_part_10 : decode cX7_part 10 = .ok (.iconst 1, 1) := by decide +kernel
theorem dX7_part_11 : decode cX7_part 11 = .ok (.isub, 1) := by decide +kernel
theorem dX7_part_12 : decode cX7_part 12 = .ok (.invokestatic 19, 3) := by decide +kernel
theorem dX7_part_15 : decode cX7_part 15 = .ok (.putfield 13, 3) := by decide +kernel
theorem dX7_part_18 : decode cX7_part 18 = .ok (.aload_n 0, 1) := by decide +kernel
theorem dX7_part_19 : decode cX7_part 19 = .ok (.dup, 1) := by decide +kernel
theorem dX7_part_20 : decode cX7_part 20 = .ok (.getfield 16, 3) := by decide +kernel
theorem dX7_part_23 : decode cX7_part 23 = .ok (.iconst 1, 1) := by decide +kernel
theorem dX7_part_24 : decode cX7_part 24 = .ok (.isub, 1) := by decide +kernel
theorem dX7_part_25 : decode cX7_part 25 = .ok (.putfield 16, 3) := by decide +kernel
theorem dX7_part_28 : decode cX7_part 28 = .ok (.goto 15, 3) := by decide +kernel
theorem dX7_part_31 : decode cX7_part 31 = .ok (.aload_n 0, 1) := by decide +kernel
theorem dX7_part_32 : decode cX7_part 32 = .ok (.aload_n 0, 1) := by decide +kernel
theorem dX7_part_33 : decode cX7_part 33 = .ok (.getfield 7, 3) := by decide +kernel
theorem dX7_part_36 : decode cX7_part 36 = .ok (.iload_n 1, 1) := by decide +kernel
theorem dX7_part_37 : decode cX7_part 37 = .ok (.invokestatic 25, 3) := by decide +kernel
theorem dX7_part_40 : decode cX7_part 40 = .ok (.putfield 7, 3) := by decide +kernel
theorem dX7_part_43 : decode cX7_part 43 = .ok (.return_, 1) := by decide +kernel
theorem dX8_init_0 : decode cX8_init 0 = .ok (.aload_n 0, 1) := by decide +kernel
theorem dX8_init_1 : decode cX8_init 1 = .ok (.invokespecial 3, 3) := by decide +kernel
theorem dX8_init_4 : decode cX8_init 4 = .ok (.aload_n 0, 1) := by decide +kernel
theorem dX8_init_5 : decode cX8_init 5 = .ok (.iconst 4, 1) := by decide +kernel
theorem dX8_init_6 : decode cX8_init 6 = .ok (.newarray .int, 2) := by decide +kernel
theorem dX8_init_8 : decode cX8_init 8 = .ok (.dup, 1) := by decide +kernel
theorem dX8_init_9 : decode cX8_init 9 = .ok (.iconst 0, 1) := by decide +kernel
theorem dX8_init_10 : decode cX8_init 10 = .ok (.bipush 20, 2) := by decide +kernel
theorem dX8_init_12 : decode cX8_init 12 = .ok (.iastore, 1) := by decide +kernel
theorem dX8_init_13 : decode cX8_init 13 = .ok (.dup, 1) := by decide +kernel
theorem dX8_init_14 : decode cX8_init 14 = .ok (.iconst 1, 1) := by decide +kernel
theorem dX8_init_15 : decode cX8_init 15 = .ok (.iconst 2, 1) := by decide +kernel
theorem dX8_init_16 : decode cX8_init 16 = .ok (.iastore, 1) := by decide +kernel
theorem dX8_init_17 : decode cX8_init 17 = .ok (.dup, 1) := by decide +kernel
theorem dX8_init_18 : decode cX8_init 18 = .ok (.iconst 2, 1) := by decide +kernel
theorem dX8_init_19 : decode cX8_init 19 = .ok (.iconst 1, 1) := by decide +kernel
theorem dX8_init_20 : decode cX8_init 20 = .ok (.iastore, 1) := by decide +kernel
theorem dX8_init_21 : decode cX8_init 21 = .ok (.dup, 1) := by decide +kernel
theorem dX8_init_22 : decode cX8_init 22 = .ok (.iconst 3, 1) := by decide +kernel
theorem dX8_init_23 : decode cX8_init 23 = .ok (.bipush 10, 2) := by decide +kernel
theorem dX8_init_25 : decode cX8_init 25 = .ok (.iastore, 1) := by decide +kernel
theorem dX8_init_26 : decode cX8_init 26 = .ok (.putfield 9, 3) := by decide +kernel
theorem dX8_init_29 : decode cX8_init 29 = .ok (.aload_n 0, 1) := by decide +kernel
theorem dX8_init_30 : decode cX8_init 30 = .ok (.bipush 40, 2) := by decide +kernel
theorem dX8_init_32 : decode cX8_init 32 = .ok (.newarray .int, 2) := by decide +kernel
theorem dX8_init_34 : decode cX8_init 34 = .ok (.putfield 15, 3) := by decide +kernel
theorem dX8_init_37 : decode cX8_init 37 = .ok (.aload_n 0, 1) := by decide +kernel
theorem dX8_init_38 : decode cX8_init 38 = .ok (.bipush 40, 2) := by decide +kernel
theorem dX8_init_40 : decode cX8_init 40 = .ok (.newarray .int, 2) := by decide +kernel
theorem dX8_init_42 : decode cX8_init 42 = .ok (.putfield 18, 3) := by decide +kernel
theorem dX8_init_45 : decode cX8_init 45 = .ok (.aload_n 0, 1) := by decide +kernel
theorem dX8_init_46 : decode cX8_init 46 = .ok (.bipush 40, 2) := by decide +kernel
theorem dX8_init_48 : decode cX8_init 48 = .ok (.newarray .int, 2) := by decide +kernel
theorem dX8_init_50 : decode cX8_init 50 = .ok (.putfield 21, 3) := by decide +kernel
theorem dX8_init_53 : decode cX8_init 53 = .ok (.return_, 1) := by decide +kernel
set_option maxRecDepth 20000 in
theorem ggX8_fits_X11_within : GoodIn wsX8_fits wsX11_within := goodIn_r _ [5] (by decide +kernel) (by decide +kernel)
set_option maxRecDepth 20000 in
theorem gX8_fits_X11_within_n24 : GoodIn wsX8_fits (wsX11_within) := ggX8_fits_X11_within
theorem dX8_fits_0 : decode cX8_fits 0 = .ok (.iload_n 0, 1) := by decide +kernel
theorem dX8_fits_1 : decode cX8_fits 1 = .ok (.iconst 0, 1) := by decide +kernel
theorem dX8_fits_2 : decode cX8_fits 2 = .ok (.iconst 3, 1) := by decide +kernel
theorem dX8_fits_3 : decode cX8_fits 3 = .ok (.invokestatic 24, 3) := by decide +kernel
theorem dX8_fits_6 : decode cX8_fits 6 = .ok (.ifCond .eq 24, 3) := by decide +kernel
theorem dX8_fits_9 : decode cX8_fits 9 = .ok (.iload_n 1, 1) := by decide +kernel
theorem dX8_fits_10 : decode cX8_fits 10 = .ok (.getstatic 28, 3) := by decide +kernel
theorem dX8_fits_13 : decode cX8_fits 13 = .ok (.iload_n 0, 1) := by decide +kernel
theorem dX8_fits_14 : decode cX8_fits 14 = .ok (.iaload, 1) := by decide +kernel
theorem dX8_fits_15 : decode cX8_fits 15 = .ok (.getstatic 31, 3) := by decide +kernel
theorem dX8_fits_18 : decode cX8_fits 18 = .ok (.iload_n 0, 1) := by decide +kernel
theorem dX8_fits_19 : decode cX8_fits 19 = .ok (.iaload, 1) := by decide +kernel
theorem dX8_fits_20 : decode cX8_fits 20 = .ok (.invokestatic 24, 3) := by decide +kernel
theorem dX8_fits_23 : decode cX8_fits 23 = .ok (.ifCond .eq 7, 3) := by decide +kernel
theorem dX8_fits_26 : decode cX8_fits 26 = .ok (.iconst 1, 1) := by decide +kernel
theorem dX8_fits_27 : decode cX8_fits 27 = .ok (.goto 4, 3) := by decide +kernel
theorem dX8_fits_30 : decode cX8_fits 30 = .ok (.iconst 0, 1) := by decide +kernel
theorem dX8_fits_31 : decode cX8_fits 31 = .ok (.ireturn, 1) := by decide +kernel
set_option maxRecDepth 20000 in
theorem ggX8_value_X11_within : GoodIn wsX8_value wsX11_within := goodIn_r _ [4] (by decide +kernel) (by decide +kernel)
set_option maxRecDepth 20000 in
theorem gX8_value_X11_within_n24 : GoodIn wsX8_value (wsX11_within) := ggX8_value_X11_within
theorem dX8_value_0 : decode cX8_value 0 = .ok (.iload_n 1, 1) := by decide +kernel
theorem dX8_value_1 : decode cX8_value 1 = .ok (.iconst 0, 1) := by decide +kernel
theorem dX8_value_2 : decode cX8_value 2 = .ok (.iconst 3, 1) := by decide +kernel
theorem dX8_value_3 : decode cX8_value 3 = .ok (.invokestatic 24, 3) := by decide +kernel
theorem dX8_value_6 : decode cX8_value 6 = .ok (.ifCond .eq 12, 3) := by decide +kernel
theorem dX8_value_9 : decode cX8_value 9 = .ok (.aload_n 0, 1) := by decide +kernel
theorem dX8_value_10 : decode cX8_value 10 = .ok (.getfield 9, 3) := by decide +kernel
theorem dX8_value_13 : decode cX8_value 13 = .ok (.iload_n 1, 1) := by decide +kernel
theorem dX8_value_14 : decode cX8_value 14 = .ok (.iaload, 1) := by decide +kernel
theorem dX8_value_15 : decode cX8_value 15 = .ok (.goto 4, 3) := by decide +kernel
theorem dX8_value_18 : decode cX8_value 18 = .ok (.iconst (-1), 1) := by decide +kernel
theorem dX8_value_19 : decode cX8_value 19 = .ok (.ireturn, 1) := by decide +kernel
theorem dX8_steps_0 : decode cX8_steps 0 = .ok (.aload_n 0, 1) := by decide +kernel
theorem dX8_steps_1 : decode cX8_steps 1 = .ok (.getfield 9, 3) := by decide +kernel
theorem dX8_steps_4 : decode cX8_steps 4 = .ok (.iconst 0, 1) := by decide +kernel
theorem dX8_steps_5 : decode cX8_steps 5 = .ok (.iaload, 1) := by decide +kernel
theorem dX8_steps_6 : decode cX8_steps 6 = .ok (.ireturn, 1) := by decide +kernel
theorem dX8_jars_0 : decode cX8_jars 0 = .ok (.aload_n 0, 1) := by decide +kernel
theorem dX8_jars_1 : decode cX8_jars 1 = .ok (.getfield 9, 3) := by decide +kernel
theorem dX8_jars_4 : decode cX8_jars 4 = .ok (.iconst 1, 1) := by decide +kernel
theorem dX8_jars_5 : decode cX8_jars 5 = .ok (.iaload, 1) := by decide +kernel
theorem dX8_jars_6 : decode cX8_jars 6 = .ok (.ireturn, 1) := by decide +kernel
set_option maxRecDepth 20000 in
theorem ggX8_change_X8_fits : GoodIn wsX8_change wsX8_fits := goodIn_r _ [5, 6, 7, 8, 9, 10] (by decide +kernel) (by decide +kernel)
set_option maxRecDepth 20000 in
theorem gX8_change_X8_fits : GoodIn wsX8_change (va_wsS RX8 34 yX8_fits wsX8_fits) := goodIn_app (goodIn_of _ (by decide +kernel)) ggX8_change_X8_fits
set_option maxRecDepth 20000 in
theorem ggX8_change_X8_note : GoodIn wsX8_change wsX8_note := goodIn_r _ [14, 15, 16, 17, 18, 19, 20, 21, 22, 4, 23, 24, 25, 26, 27, 28, 29] (by decide +kernel) (by decide +kernel)
set_option maxRecDepth 20000 in
theorem gX8_change_X8_note : GoodIn wsX8_change (wsV RX8 38 RX8 yX8_note wsX8_note) := goodIn_app (goodIn_of _ (by decide +kernel)) ggX8_change_X8_note
theorem dX8_change_0 : decode cX8_change 0 = .ok (.iload_n 1, 1) := by decide +kernel
theorem dX8_change_1 : decode cX8_change 1 = .ok (.iload_n 2, 1) := by decide +kernel
theorem dX8_change_2 : decode cX8_change 2 = .ok (.invokestatic 34, 3) := by decide +kernel
theorem dX8_change_5 : decode cX8_change 5 = .ok (.ifCond .ne 5, 3) := by decide +kernel
theorem dX8_change_8 : decode cX8_change 8 = .ok (.iconst (-1), 1) := by decide +kernel
theorem dX8_change_9 : decode cX8_change 9 = .ok (.ireturn, 1) := by decide +kernel
theorem dX8_change_10 : decode cX8_change 10 = .ok (.aload_n 0, 1) := by decide +kernel
theorem dX8_change_11 : decode cX8_change 11 = .ok (.getfield 9, 3) := by decide +kernel
theorem dX8_change_14 : decode cX8_change 14 = .ok (.iload_n 1, 1) := by decide +kernel
theorem dX8_change_15 : decode cX8_change 15 = .ok (.iaload, 1) := by decide +kernel
theorem dX8_change_16 : decode cX8_change 16 = .ok (.istore_n 3, 1) := by decide +kernel
theorem dX8_change_17 : decode cX8_change 17 = .ok (.iload_n 2, 1) := by decide +kernel
theorem dX8_change_18 : decode cX8_change 18 = .ok (.iload_n 3, 1) := by decide +kernel
theorem dX8_change_19 : decode cX8_change 19 = .ok (.if_icmp .eq 17, 3) := by decide +kernel
theorem dX8_change_22 : decode cX8_change 22 = .ok (.aload_n 0, 1) := by decide +kernel
theorem dX8_change_23 : decode cX8_change 23 = .ok (.iload_n 1, 1) := by decide +kernel
theorem dX8_change_24 : decode cX8_change 24 = .ok (.iload_n 3, 1) := by decide +kernel
theorem dX8_change_25 : decode cX8_change 25 = .ok (.iload_n 2, 1) := by decide +kernel
theorem dX8_change_26 : decode cX8_change 26 = .ok (.invokevirtual 38, 3) := by decide +kernel
theorem dX8_change_29 : decode cX8_change 29 = .ok (.aload_n 0, 1) := by decide +kernel
theorem dX8_change_30 : decode cX8_change 30 = .ok (.getfield 9, 3) := by decide +kernel
theorem dX8_change_33 : decode cX8_change 33 = .ok (.iload_n 1, 1) := by decide +kernel
theorem dX8_change_34 : decode cX8_change 34 = .ok (.iload_n 2, 1) := by decide +kernel
theorem dX8_change_35 : decode cX8_change 35 = .ok (.iastore, 1) := by decide +kernel
theorem dX8_change_36 : decode cX8_change 36 = .ok (.iload_n 3, 1) := by decide +kernel
theorem dX8_change_37 : decode cX8_change 37 = .ok (.ireturn, 1) := by decide +kernel
set_option maxRecDepth 20000 in
theorem ggX8_note_X8_forgetOldest : GoodIn wsX8_note wsX8_forgetOldest := goodIn_r _ [10, 2, 3, 4, 1, 11, 12, 13, 14, 15, 16] (by decide +kernel) (by decide +kernel)
set_option maxRecDepth 20000 in
theorem gX8_note_X8_forgetOldest : GoodIn wsX8_note (wsV RX8 46 RX8 yX8_forgetOldest wsX8_forgetOldest) := goodIn_app (goodIn_of _ (by decide +kernel)) ggX8_note_X8_forgetOldest
theorem dX8_note_0 : decode cX8_note 0 = .ok (.aload_n 0, 1) := by decide +kernel
theorem dX8_note_1 : decode cX8_note 1 = .ok (.getfield 42, 3) := by decide +kernel
theorem dX8_note_4 : decode cX8_note 4 = .ok (.bipush 40, 2) := by decide +kernel
theorem dX8_note_6 : decode cX8_note 6 = .ok (.if_icmp .ne 7, 3) := by decide +kernel
theorem dX8_note_9 : decode cX8_note 9 = .ok (.aload_n 0, 1) := by decide +kernel
theorem dX8_note_10 : decode cX8_note 10 = .ok (.invokevirtual 46, 3) := by decide +kernel
theorem dX8_note_13 : decode cX8_note 13 = .ok (.aload_n 0, 1) := by decide +kernel
theorem dX8_note_14 : decode cX8_note 14 = .ok (.getfield 15, 3) := by decide +kernel
theorem dX8_note_17 : decode cX8_note 17 = .ok (.aload_n 0, 1) := by decide +kernel
theorem dX8_note_18 : decode cX8_note 18 = .ok (.getfield 42, 3) := by decide +kernel
theorem dX8_note_21 : decode cX8_note 21 = .ok (.iload_n 1, 1) := by decide +kernel
theorem dX8_note_22 : decode cX8_note 22 = .ok (.iastore, 1) := by decide +kernel
theorem dX8_note_23 : decode cX8_note 23 = .ok (.aload_n 0, 1) := by decide +kernel
theorem dX8_note_24 : decode cX8_note 24 = .ok (.getfield 18, 3) := by decide +kernel
theorem dX8_note_27 : decode cX8_note 27 = .ok (.aload_n 0, 1) := by decide +kernel
theorem dX8_note_28 : decode cX8_note 28 = .ok (.getfield 42, 3) := by decide +kernel
theorem dX8_note_31 : decode cX8_note 31 = .ok (.iload_n 2, 1) := by decide +kernel
theorem dX8_note_32 : decode cX8_note 32 = .ok (.iastore, 1) := by decide +kernel
theorem dX8_note_33 : decode cX8_note 33 = .ok (.aload_n 0, 1) := by decide +kernel
theorem dX8_note_34 : decode cX8_note 34 = .ok (.getfield 21, 3) := by decide +kernel
theorem dX8_note_37 : decode cX8_note 37 = .ok (.aload_n 0, 1) := by decide +kernel
theorem dX8_note_38 : decode cX8_note 38 = .ok (.getfield 42, 3) := by decide +kernel
theorem dX8_note_41 : decode cX8_note 41 = .ok (.iload_n 3, 1) := by decide +kernel
theorem dX8_note_42 : decode cX8_note 42 = .ok (.iastore, 1) := by decide +kernel
theorem dX8_note_43 : decode cX8_note 43 = .ok (.aload_n 0, 1) := by decide +kernel
theorem dX8_note_44 : decode cX8_note 44 = .ok (.dup, 1) := by decide +kernel
theorem dX8_note_45 : decode cX8_note 45 = .ok (.getfield 42, 3) := by decide +kernel
theorem dX8_note_48 : decode cX8_note 48 = .ok (.iconst 1, 1) := by decide +kernel
theorem dX8_note_49 : decode cX8_note 49 = .ok (.iadd, 1) := by decide +kernel
theorem dX8_note_50 : decode cX8_note 50 = .ok (.putfield 42, 3) := by decide +kernel
theorem dX8_note_53 : decode cX8_note 53 = .ok (.aload_n 0, 1) := by decide +kernel
theorem dX8_note_54 : decode cX8_note 54 = .ok (.aload_n 0, 1) := by decide +kernel
theorem dX8_note_55 : decode cX8_note 55 = .ok (.getfield 42, 3) := by decide +kernel
theorem dX8_note_58 : decode cX8_note 58 = .ok (.putfield 49, 3) := by decide +kernel
theorem dX8_note_61 : decode cX8_note 61 = .ok (.return_, 1) := by decide +kernel
theorem dX8_forgetOldest_0 : decode cX8_forgetOldest 0 = .ok (.iconst 1, 1) := by decide +kernel
theorem dX8_forgetOldest_1 : decode cX8_forgetOldest 1 = .ok (.istore_n 1, 1) := by decide +kernel
theorem dX8_forgetOldest_2 : decode cX8_forgetOldest 2 = .ok (.iload_n 1, 1) := by decide +kernel
theorem dX8_forgetOldest_3 : decode cX8_forgetOldest 3 = .ok (.bipush 40, 2) := by decide +kernel
theorem dX8_forgetOldest_5 : decode cX8_forgetOldest 5 = .ok (.if_icmp .ge 51, 3) := by decide +kernel
theorem dX8_forgetOldest_8 : decode cX8_forgetOldest 8 = .ok (.aload_n 0, 1) := by decide +kernel
theorem dX8_forgetOldest_9 : decode cX8_forgetOldest 9 = .ok (.getfield 15, 3) := by decide +kernel
theorem dX8_forgetOldest_12 : decode cX8_forgetOldest 12 = .ok (.iload_n 1, 1) := by decide +kernel
theorem dX8_forgetOldest_13 : decode cX8_forgetOldest 13 = .ok (.iconst 1, 1) := by decide +kernel
theorem dX8_forgetOldest_14 : decode cX8_forgetOldest 14 = .ok (.isub, 1) := by decide +kernel
theorem dX8_forgetOldest_15 : decode cX8_forgetOldest 15 = .ok (.aload_n 0, 1) := by decide +kernel
theorem dX8_forgetOldest_16 : decode cX8_forgetOldest 16 = .ok (.getfield 15, 3) := by decide +kernel
theorem dX8_forgetOldest_19 : decode cX8_forgetOldest 19 = .ok (.iload_n 1, 1) := by decide +kernel
theorem dX8_forgetOldest_20 : decode cX8_forgetOldest 20 = .ok (.iaload, 1) := by decide +kernel
theorem dX8_forgetOldest_21 : decode cX8_forgetOldest 21 = .ok (.iastore, 1) := by decide +kernel
theorem dX8_forgetOldest_22 : decode cX8_forgetOldest 22 = .ok (.aload_n 0, 1) := by decide +kernel
theorem dX8_forgetOldest_23 : decode cX8_forgetOldest 23 = .ok (.getfield 18, 3) := by decide +kernel
theorem dX8_forgetOldest_26 : decode cX8_forgetOldest 26 = .ok (.iload_n 1, 1) := by decide +kernel
theorem dX8_forgetOldest_27 : decode cX8_forgetOldest 27 = .ok (.iconst 1, 1) := by decide +kernel
theorem dX8_forgetOldest_28 : decode cX8_forgetOldest 28 = .ok (.isub, 1) := by decide +kernel
theorem dX8_forgetOldest_29 : decode cX8_forgetOldest 29 = .ok (.aload_n 0, 1) := by decide +kernel
theorem dX8_forgetOldest_30 : decode cX8_forgetOldest 30 = .ok (.getfield 18, 3) := by decide +kernel
theorem dX8_forgetOldest_33 : decode cX8_forgetOldest 33 = .ok (.iload_n 1, 1) := by decide +kernel
theorem dX8_forgetOldest_34 : decode cX8_forgetOldest 34 = .ok (.iaload, 1) := by decide +kernel
theorem dX8_forgetOldest_35 : decode cX8_forgetOldest 35 = .ok (.iastore, 1) := by decide +kernel
theorem dX8_forgetOldest_36 : decode cX8_forgetOldest 36 = .ok (.aload_n 0, 1) := by decide +kernel
theorem dX8_forgetOldest_37 : decode cX8_forgetOldest 37 = .ok (.getfield 21, 3) := by decide +kernel
theorem dX8_forgetOldest_40 : decode cX8_forgetOldest 40 = .ok (.iload_n 1, 1) := by decide +kernel
theorem dX8_forgetOldest_41 : decode cX8_forgetOldest 41 = .ok (.iconst 1, 1) := by decide +kernel
theorem dX8_forgetOldest_42 : decode cX8_forgetOldest 42 = .ok (.isub, 1) := by decide +kernel
theorem dX8_forgetOldest_43 : decode cX8_forgetOldest 43 = .ok (.aload_n 0, 1) := by decide +kernel
theorem dX8_forgetOldest_44 : decode cX8_forgetOldest 44 = .ok (.getfield 21, 3) := by decide +kernel
theorem dX8_forgetOldest_47 : decode cX8_forgetOldest 47 = .ok (.iload_n 1, 1) := by decide +kernel
theorem dX8_forgetOldest_48 : decode cX8_forgetOldest 48 = .ok (.iaload, 1) := by decide +kernel
theorem dX8_forgetOldest_49 : decode cX8_forgetOldest 49 = .ok (.iastore, 1) := by decide +kernel
theorem dX8_forgetOldest_50 : decode cX8_forgetOldest 50 = .ok (.iinc 1 1, 3) := by decide +kernel
theorem dX8_forgetOldest_53 : decode cX8_forgetOldest 53 = .ok (.goto (-51), 3) := by decide +kernel
theorem dX8_forgetOldest_56 : decode cX8_forgetOldest 56 = .ok (.aload_n 0, 1) := by decide +kernel
theorem dX8_forgetOldest_57 : decode cX8_forgetOldest 57 = .ok (.bipush 39, 2) := by decide +kernel
theorem dX8_forgetOldest_59 : decode cX8_forgetOldest 59 = .ok (.putfield 42, 3) := by decide +kernel
theorem dX8_forgetOldest_62 : decode cX8_forgetOldest 62 = .ok (.return_, 1) := by decide +kernel
theorem dX8_takeBack_0 : decode cX8_takeBack 0 = .ok (.aload_n 0, 1) := by decide +kernel
theorem dX8_takeBack_1 : decode cX8_takeBack 1 = .ok (.getfield 42, 3) := by decide +kernel
theorem dX8_takeBack_4 : decode cX8_takeBack 4 = .ok (.ifCond .ne 6, 3) := by decide +kernel
theorem dX8_takeBack_7 : decode cX8_takeBack 7 = .ok (.bipush (-5), 2) := by decide +kernel
theorem dX8_takeBack_9 : decode cX8_takeBack 9 = .ok (.ireturn, 1) := by decide +kernel
theorem dX8_takeBack_10 : decode cX8_takeBack 10 = .ok (.aload_n 0, 1) := by decide +kernel
theorem dX8_takeBack_11 : decode cX8_takeBack 11 = .ok (.dup, 1) := by decide +kernel
theorem dX8_takeBack_12 : decode cX8_takeBack 12 = .ok (.getfield 42, 3) := by decide +kernel
theorem dX8_takeBack_15 : decode cX8_takeBack 15 = .ok (.iconst 1, 1) := by decide +kernel
theorem dX8_takeBack_16 : decode cX8_takeBack 16 = .ok (.isub, 1) := by decide +kernel
theorem dX8_takeBack_17 : decode cX8_takeBack 17 = .ok (.putfield 42, 3) := by decide +kernel
theorem dX8_takeBack_20 : decode cX8_takeBack 20 = .ok (.aload_n 0, 1) := by decide +kernel
theorem dX8_takeBack_21 : decode cX8_takeBack 21 = .ok (.getfield 9, 3) := by decide +kernel
theorem dX8_takeBack_24 : decode cX8_takeBack 24 = .ok (.aload_n 0, 1) := by decide +kernel
theorem dX8_takeBack_25 : decode cX8_takeBack 25 = .ok (.getfield 15, 3) := by decide +kernel
theorem dX8_takeBack_28 : decode cX8_takeBack 28 = .ok (.aload_n 0, 1) := by decide +kernel
theorem dX8_takeBack_29 : decode cX8_takeBack 29 = .ok (.getfield 42, 3) := by decide +kernel
theorem dX8_takeBack_32 : decode cX8_takeBack 32 = .ok (.iaload, 1) := by decide +kernel
theorem dX8_takeBack_33 : decode cX8_takeBack 33 = .ok (.aload_n 0, 1) := by decide +kernel
theorem dX8_takeBack_34 : decode cX8_takeBack 34 = .ok (.getfield 18, 3) := by decide +kernel
theorem dX8_takeBack_37 : decode cX8_takeBack 37 = .ok (.aload_n 0, 1) := by decide +kernel
theorem dX8_takeBack_38 : decode cX8_takeBack 38 = .ok (.getfield 42, 3) := by decide +kernel
theorem dX8_takeBack_41 : decode cX8_takeBack 41 = .ok (.iaload, 1) := by decide +kernel
theorem dX8_takeBack_42 : decode cX8_takeBack 42 = .ok (.iastore, 1) := by decide +kernel
theorem dX8_takeBack_43 : decode cX8_takeBack 43 = .ok (.aload_n 0, 1) := by decide +kernel
theorem dX8_takeBack_44 : decode cX8_takeBack 44 = .ok (.getfield 42, 3) := by decide +kernel
theorem dX8_takeBack_47 : decode cX8_takeBack 47 = .ok (.ireturn, 1) := by decide +kernel
theorem dX8_doAgain_0 : decode cX8_doAgain 0 = .ok (.aload_n 0, 1) := by decide +kernel
theorem dX8_doAgain_1 : decode cX8_doAgain 1 = .ok (.getfield 42, 3) := by decide +kernel
theorem dX8_doAgain_4 : decode cX8_doAgain 4 = .ok (.aload_n 0, 1) := by decide +kernel
theorem dX8_doAgain_5 : decode cX8_doAgain 5 = .ok (.getfield 49, 3) := by decide +kernel
theorem dX8_doAgain_8 : decode cX8_doAgain 8 = .ok (.if_icmp .ne 6, 3) := by decide +kernel
theorem dX8_doAgain_11 : decode cX8_doAgain 11 = .ok (.bipush (-5), 2) := by decide +kernel
theorem dX8_doAgain_13 : decode cX8_doAgain 13 = .ok (.ireturn, 1) := by decide +kernel
theorem dX8_doAgain_14 : decode cX8_doAgain 14 = .ok (.aload_n 0, 1) := by decide +kernel
theorem dX8_doAgain_15 : decode cX8_doAgain 15 = .ok (.getfield 9, 3) := by decide +kernel
theorem dX8_doAgain_18 : decode cX8_doAgain 18 = .ok (.aload_n 0, 1) := by decide +kernel
theorem dX8_doAgain_19 : decode cX8_doAgain 19 = .ok (.getfield 15, 3) := by decide +kernel
theorem dX8_doAgain_22 : decode cX8_doAgain 22 = .ok (.aload_n 0, 1) := by decide +kernel
theorem dX8_doAgain_23 : decode cX8_doAgain 23 = .ok (.getfield 42, 3) := by decide +kernel
theorem dX8_doAgain_26 : decode cX8_doAgain 26 = .ok (.iaload, 1) := by decide +kernel
theorem dX8_doAgain_27 : decode cX8_doAgain 27 = .ok (.aload_n 0, 1) := by decide +kernel
theorem dX8_doAgain_28 : decode cX8_doAgain 28 = .ok (.getfield 21, 3) := by decide +kernel
theorem dX8_doAgain_31 : decode cX8_doAgain 31 = .ok (.aload_n 0, 1) := by decide +kernel
theorem dX8_doAgain_32 : decode cX8_doAgain 32 = .ok (.getfield 42, 3) := by decide +kernel
theorem dX8_doAgain_35 : decode cX8_doAgain 35 = .ok (.iaload, 1) := by decide +kernel
theorem dX8_doAgain_36 : decode cX8_doAgain 36 = .ok (.iastore, 1) := by decide +kernel
theorem dX8_doAgain_37 : decode cX8_doAgain 37 = .ok (.aload_n 0, 1) := by decide +kernel
theorem dX8_doAgain_38 : decode cX8_doAgain 38 = .ok (.dup, 1) := by decide +kernel
theorem dX8_doAgain_39 : decode cX8_doAgain 39 = .ok (.getfield 42, 3) := by decide +kernel
theorem dX8_doAgain_42 : decode cX8_doAgain 42 = .ok (.iconst 1, 1) := by decide +kernel
theorem dX8_doAgain_43 : decode cX8_doAgain 43 = .ok (.iadd, 1) := by decide +kernel
theorem dX8_doAgain_44 : decode cX8_doAgain 44 = .ok (.putfield 42, 3) := by decide +kernel
theorem dX8_doAgain_47 : decode cX8_doAgain 47 = .ok (.aload_n 0, 1) := by decide +kernel
theorem dX8_doAgain_48 : decode cX8_doAgain 48 = .ok (.getfield 49, 3) := by decide +kernel
theorem dX8_doAgain_51 : decode cX8_doAgain 51 = .ok (.aload_n 0, 1) := by decide +kernel
theorem dX8_doAgain_52 : decode cX8_doAgain 52 = .ok (.getfield 42, 3) := by decide +kernel
theorem dX8_doAgain_55 : decode cX8_doAgain 55 = .ok (.isub, 1) := by decide +kernel
theorem dX8_doAgain_56 : decode cX8_doAgain 56 = .ok (.ireturn, 1) := by decide +kernel
theorem dX9_init_0 : decode cX9_init 0 = .ok (.aload_n 0, 1) := by decide +kernel
theorem dX9_init_1 : decode cX9_init 1 = .ok (.invokespecial 3, 3) := by decide +kernel
theorem dX9_init_4 : decode cX9_init 4 = .ok (.aload_n 0, 1) := by decide +kernel
theorem dX9_init_5 : decode cX9_init 5 = .ok (.bipush 7, 2) := by decide +kernel
theorem dX9_init_7 : decode cX9_init 7 = .ok (.bipush 26, 2) := by decide +kernel
theorem dX9_init_9 : decode cX9_init 9 = .ok (.multianewarray 11 2, 4) := by decide +kernel
theorem dX9_init_13 : decode cX9_init 13 = .ok (.putfield 13, 3) := by decide +kernel
theorem dX9_init_16 : decode cX9_init 16 = .ok (.aload_n 0, 1) := by decide +kernel
theorem dX9_init_17 : decode cX9_init 17 = .ok (.bipush 7, 2) := by decide +kernel
theorem dX9_init_19 : decode cX9_init 19 = .ok (.bipush 26, 2) := by decide +kernel
theorem dX9_init_21 : decode cX9_init 21 = .ok (.multianewarray 11 2, 4) := by decide +kernel
theorem dX9_init_25 : decode cX9_init 25 = .ok (.putfield 16, 3) := by decide +kernel
theorem dX9_init_28 : decode cX9_init 28 = .ok (.return_, 1) := by decide +kernel
set_option maxRecDepth 20000 in
theorem ggX9_prepare_X9_fill : GoodIn wsX9_prepare wsX9_fill := goodIn_r _ [6, 7, 8, 9, 10, 11, 12, 13, 14, 15, 16, 5, 17, 18, 19, 20, 21, 22, 23, 24, 25, 26] (by decide +kernel) (by decide +kernel)
set_option maxRecDepth 20000 in
theorem gX9_prepare_X9_fill : GoodIn wsX9_prepare (wsV RX9 23 RX9 yX9_fill wsX9_fill) := goodIn_app (goodIn_of _ (by decide +kernel)) ggX9_prepare_X9_fill
theorem dX9_prepare_0 : decode cX9_prepare 0 = .ok (.aload_n 0, 1) := by decide +kernel
theorem dX9_prepare_1 : decode cX9_prepare 1 = .ok (.getfield 19, 3) := by decide +kernel
theorem dX9_prepare_4 : decode cX9_prepare 4 = .ok (.ifCond .eq 4, 3) := by decide +kernel
theorem dX9_prepare_7 : decode cX9_prepare 7 = .ok (.return_, 1) := by decide +kernel
theorem dX9_prepare_8 : decode cX9_prepare 8 = .ok (.aload_n 0, 1) := by decide +kernel
theorem dX9_prepare_9 : decode cX9_prepare 9 = .ok (.iconst 1, 1) := by decide +kernel
theorem dX9_prepare_10 : decode cX9_prepare 10 = .ok (.putfield 19, 3) := by decide +kernel
theorem dX9_prepare_13 : decode cX9_prepare 13 = .ok (.iconst 0, 1) := by decide +kernel
theorem dX9_prepare_14 : decode cX9_prepare 14 = .ok (.istore_n 1, 1) := by decide +kernel
theorem dX9_prepare_15 : decode cX9_prepare 15 = .ok (.iload_n 1, 1) := by decide +kernel
theorem dX9_prepare_16 : decode cX9_prepare 16 = .ok (.bipush 6, 2) := by decide +kernel
theorem dX9_prepare_18 : decode cX9_prepare 18 = .ok (.if_icmp .gt 29, 3) := by decide +kernel
theorem dX9_prepare_21 : decode cX9_prepare 21 = .ok (.iconst 1, 1) := by decide +kernel
theorem dX9_prepare_22 : decode cX9_prepare 22 = .ok (.istore_n 2, 1) := by decide +kernel
theorem dX9_prepare_23 : decode cX9_prepare 23 = .ok (.iload_n 2, 1) := by decide +kernel
theorem dX9_prepare_24 : decode cX9_prepare 24 = .ok (.bipush 25, 2) := by decide +kernel
theorem dX9_prepare_26 : decode cX9_prepare 26 = .ok (.if_icmp .gt 15, 3) := by decide +kernel
theorem dX9_prepare_29 : decode cX9_prepare 29 = .ok (.aload_n 0, 1) := by decide +kernel
theorem dX9_prepare_30 : decode cX9_prepare 30 = .ok (.iload_n 1, 1) := by decide +kernel
theorem dX9_prepare_31 : decode cX9_prepare 31 = .ok (.iload_n 2, 1) := by decide +kernel
theorem dX9_prepare_32 : decode cX9_prepare 32 = .ok (.invokevirtual 23, 3) := by decide +kernel
theorem dX9_prepare_35 : decode cX9_prepare 35 = .ok (.iinc 2 1, 3) := by decide +kernel
theorem dX9_prepare_38 : decode cX9_prepare 38 = .ok (.goto (-15), 3) := by decide +kernel
theorem dX9_prepare_41 : decode cX9_prepare 41 = .ok (.iinc 1 1, 3) := by decide +kernel
theorem dX9_prepare_44 : decode cX9_prepare 44 = .ok (.goto (-29), 3) := by decide +kernel
theorem dX9_prepare_47 : decode cX9_prepare 47 = .ok (.return_, 1) := by decide +kernel
set_option maxRecDepth 20000 in
theorem ggX9_fill_X9_rest : GoodIn wsX9_fill wsX9_rest := goodIn_r _ [12, 1, 7, 6, 13, 14, 4, 15, 2, 3, 5, 16, 17, 18, 19, 20, 21] (by decide +kernel) (by decide +kernel)
set_option maxRecDepth 20000 in
theorem gX9_fill_X9_rest : GoodIn wsX9_fill (wsV RX9 28 RX9 yX9_rest wsX9_rest) := goodIn_app (goodIn_of _ (by decide +kernel)) ggX9_fill_X9_rest
theorem dX9_fill_0 : decode cX9_fill 0 = .ok (.iload_n 2, 1) := by decide +kernel
theorem dX9_fill_1 : decode cX9_fill 1 = .ok (.iconst 1, 1) := by decide +kernel
theorem dX9_fill_2 : decode cX9_fill 2 = .ok (.if_icmp .ne 7, 3) := by decide +kernel
theorem dX9_fill_5 : decode cX9_fill 5 = .ok (.iconst 0, 1) := by decide +kernel
theorem dX9_fill_6 : decode cX9_fill 6 = .ok (.goto 5, 3) := by decide +kernel
theorem dX9_fill_9 : decode cX9_fill 9 = .ok (.ldc 27, 2) := by decide +kernel
theorem dX9_fill_11 : decode cX9_fill 11 = .ok (.istore_n 3, 1) := by decide +kernel
theorem dX9_fill_12 : decode cX9_fill 12 = .ok (.iload_n 3, 1) := by decide +kernel
theorem dX9_fill_13 : decode cX9_fill 13 = .ok (.istore 4, 2) := by decide +kernel
theorem dX9_fill_15 : decode cX9_fill 15 = .ok (.iconst 1, 1) := by decide +kernel
theorem dX9_fill_16 : decode cX9_fill 16 = .ok (.istore 5, 2) := by decide +kernel
theorem dX9_fill_18 : decode cX9_fill 18 = .ok (.iload 5, 2) := by decide +kernel
theorem dX9_fill_20 : decode cX9_fill 20 = .ok (.iload_n 2, 1) := by decide +kernel
theorem dX9_fill_21 : decode cX9_fill 21 = .ok (.if_icmp .ge 43, 3) := by decide +kernel
theorem dX9_fill_24 : decode cX9_fill 24 = .ok (.aload_n 0, 1) := by decide +kernel
theorem dX9_fill_25 : decode cX9_fill 25 = .ok (.iload_n 1, 1) := by decide +kernel
theorem dX9_fill_26 : decode cX9_fill 26 = .ok (.iload_n 2, 1) := by decide +kernel
theorem dX9_fill_27 : decode cX9_fill 27 = .ok (.iload 5, 2) := by decide +kernel
theorem dX9_fill_29 : decode cX9_fill 29 = .ok (.invokevirtual 28, 3) := by decide +kernel
theorem dX9_fill_32 : decode cX9_fill 32 = .ok (.istore 6, 2) := by decide +kernel
theorem dX9_fill_34 : decode cX9_fill 34 = .ok (.iload_n 3, 1) := by decide +kernel
theorem dX9_fill_35 : decode cX9_fill 35 = .ok (.iload 5, 2) := by decide +kernel
theorem dX9_fill_37 : decode cX9_fill 37 = .ok (.iload 6, 2) := by decide +kernel
theorem dX9_fill_39 : decode cX9_fill 39 = .ok (.iadd, 1) := by decide +kernel
theorem dX9_fill_40 : decode cX9_fill 40 = .ok (.invokestatic 32, 3) := by decide +kernel
theorem dX9_fill_43 : decode cX9_fill 43 = .ok (.istore_n 3, 1) := by decide +kernel
theorem dX9_fill_44 : decode cX9_fill 44 = .ok (.iload 4, 2) := by decide +kernel
theorem dX9_fill_46 : decode cX9_fill 46 = .ok (.iload_n 2, 1) := by decide +kernel
theorem dX9_fill_47 : decode cX9_fill 47 = .ok (.iload 5, 2) := by decide +kernel
theorem dX9_fill_49 : decode cX9_fill 49 = .ok (.isub, 1) := by decide +kernel
theorem dX9_fill_50 : decode cX9_fill 50 = .ok (.iload 6, 2) := by decide +kernel
theorem dX9_fill_52 : decode cX9_fill 52 = .ok (.iadd, 1) := by decide +kernel
theorem dX9_fill_53 : decode cX9_fill 53 = .ok (.invokestatic 32, 3) := by decide +kernel
theorem dX9_fill_56 : decode cX9_fill 56 = .ok (.istore 4, 2) := by decide +kernel
theorem dX9_fill_58 : decode cX9_fill 58 = .ok (.iinc 5 1, 3) := by decide +kernel
theorem dX9_fill_61 : decode cX9_fill 61 = .ok (.goto (-43), 3) := by decide +kernel
theorem dX9_fill_64 : decode cX9_fill 64 = .ok (.aload_n 0, 1) := by decide +kernel
theorem dX9_fill_65 : decode cX9_fill 65 = .ok (.getfield 13, 3) := by decide +kernel
theorem dX9_fill_68 : decode cX9_fill 68 = .ok (.iload_n 1, 1) := by decide +kernel
theorem dX9_fill_69 : decode cX9_fill 69 = .ok (.aaload, 1) := by decide +kernel
theorem dX9_fill_70 : decode cX9_fill 70 = .ok (.iload_n 2, 1) := by decide +kernel
theorem dX9_fill_71 : decode cX9_fill 71 = .ok (.iload_n 3, 1) := by decide +kernel
theorem dX9_fill_72 : decode cX9_fill 72 = .ok (.iastore, 1) := by decide +kernel
theorem dX9_fill_73 : decode cX9_fill 73 = .ok (.aload_n 0, 1) := by decide +kernel
theorem dX9_fill_74 : decode cX9_fill 74 = .ok (.getfield 16, 3) := by decide +kernel
theorem dX9_fill_77 : decode cX9_fill 77 = .ok (.iload_n 1, 1) := by decide +kernel
theorem dX9_fill_78 : decode cX9_fill 78 = .ok (.aaload, 1) := by decide +kernel
theorem dX9_fill_79 : decode cX9_fill 79 = .ok (.iload_n 2, 1) := by decide +kernel
theorem dX9_fill_80 : decode cX9_fill 80 = .ok (.iload 4, 2) := by decide +kernel
theorem dX9_fill_82 : decode cX9_fill 82 = .ok (.iastore, 1) := by decide +kernel
theorem dX9_fill_83 : decode cX9_fill 83 = .ok (.return_, 1) := by decide +kernel
set_option maxRecDepth 20000 in
theorem ggX9_rest_X11_within : GoodIn wsX9_rest wsX11_within := goodIn_r _ [13] (by decide +kernel) (by decide +kernel)
set_option maxRecDepth 20000 in
theorem gX9_rest_X11_within_n38 : GoodIn wsX9_rest (wsX11_within) := ggX9_rest_X11_within
theorem dX9_rest_0 : decode cX9_rest 0 = .ok (.iload_n 1, 1) := by decide +kernel
theorem dX9_rest_1 : decode cX9_rest 1 = .ok (.iconst 1, 1) := by decide +kernel
theorem dX9_rest_2 : decode cX9_rest 2 = .ok (.bipush 6, 2) := by decide +kernel
theorem dX9_rest_4 : decode cX9_rest 4 = .ok (.invokestatic 38, 3) := by decide +kernel
theorem dX9_rest_7 : decode cX9_rest 7 = .ok (.ifCond .eq 19, 3) := by decide +kernel
theorem dX9_rest_10 : decode cX9_rest 10 = .ok (.iload_n 2, 1) := by decide +kernel
theorem dX9_rest_11 : decode cX9_rest 11 = .ok (.bipush 25, 2) := by decide +kernel
theorem dX9_rest_13 : decode cX9_rest 13 = .ok (.if_icmp .gt 13, 3) := by decide +kernel
theorem dX9_rest_16 : decode cX9_rest 16 = .ok (.iload_n 3, 1) := by decide +kernel
theorem dX9_rest_17 : decode cX9_rest 17 = .ok (.iconst 1, 1) := by decide +kernel
theorem dX9_rest_18 : decode cX9_rest 18 = .ok (.if_icmp .lt 8, 3) := by decide +kernel
theorem dX9_rest_21 : decode cX9_rest 21 = .ok (.iload_n 3, 1) := by decide +kernel
theorem dX9_rest_22 : decode cX9_rest 22 = .ok (.iload_n 2, 1) := by decide +kernel
theorem dX9_rest_23 : decode cX9_rest 23 = .ok (.if_icmp .lt 6, 3) := by decide +kernel
theorem dX9_rest_26 : decode cX9_rest 26 = .ok (.ldc 27, 2) := by decide +kernel
theorem dX9_rest_28 : decode cX9_rest 28 = .ok (.ireturn, 1) := by decide +kernel
theorem dX9_rest_29 : decode cX9_rest 29 = .ok (.ldc 27, 2) := by decide +kernel
theorem dX9_rest_31 : decode cX9_rest 31 = .ok (.aload_n 0, 1) := by decide +kernel
theorem dX9_rest_32 : decode cX9_rest 32 = .ok (.getfield 16, 3) := by decide +kernel
theorem dX9_rest_35 : decode cX9_rest 35 = .ok (.iload_n 1, 1) := by decide +kernel
theorem dX9_rest_36 : decode cX9_rest 36 = .ok (.iconst 1, 1) := by decide +kernel
theorem dX9_rest_37 : decode cX9_rest 37 = .ok (.isub, 1) := by decide +kernel
theorem dX9_rest_38 : decode cX9_rest 38 = .ok (.aaload, 1) := by decide +kernel
theorem dX9_rest_39 : decode cX9_rest 39 = .ok (.iload_n 3, 1) := by decide +kernel
theorem dX9_rest_40 : decode cX9_rest 40 = .ok (.iaload, 1) := by decide +kernel
theorem dX9_rest_41 : decode cX9_rest 41 = .ok (.aload_n 0, 1) := by decide +kernel
theorem dX9_rest_42 : decode cX9_rest 42 = .ok (.getfield 13, 3) := by decide +kernel
theorem dX9_rest_45 : decode cX9_rest 45 = .ok (.iload_n 1, 1) := by decide +kernel
theorem dX9_rest_46 : decode cX9_rest 46 = .ok (.aaload, 1) := by decide +kernel
theorem dX9_rest_47 : decode cX9_rest 47 = .ok (.iload_n 2, 1) := by decide +kernel
theorem dX9_rest_48 : decode cX9_rest 48 = .ok (.iload_n 3, 1) := by decide +kernel
theorem dX9_rest_49 : decode cX9_rest 49 = .ok (.isub, 1) := by decide +kernel
theorem dX9_rest_50 : decode cX9_rest 50 = .ok (.iaload, 1) := by decide +kernel
theorem dX9_rest_51 : decode cX9_rest 51 = .ok (.invokestatic 42, 3) := by decide +kernel
theorem dX9_rest_54 : decode cX9_rest 54 = .ok (.invokestatic 32, 3) := by decide +kernel
theorem dX9_rest_57 : decode cX9_rest 57 = .ok (.ireturn, 1) := by decide +kernel
set_option maxRecDepth 20000 in
theorem ggX9_costFrom_X7_heights : GoodIn wsX9_costFrom wsX7_heights := goodIn_r _ [9, 10, 11, 29, 30, 31] (by decide +kernel) (by decide +kernel)
set_option maxRecDepth 20000 in
theorem gX9_costFrom_X7_heights : GoodIn wsX9_costFrom (wsV RX9 55 RX7 yX7_heights wsX7_heights) := goodIn_app (goodIn_of _ (by decide +kernel)) ggX9_costFrom_X7_heights
set_option maxRecDepth 20000 in
theorem ggX9_costFrom_X9_rest : GoodIn wsX9_costFrom wsX9_rest := goodIn_r _ [16, 17, 18, 19, 20, 21, 3, 22, 23, 24, 25, 26, 27, 28, 32, 33, 34] (by decide +kernel) (by decide +kernel)
set_option maxRecDepth 20000 in
theorem gX9_costFrom_X9_rest : GoodIn wsX9_costFrom (wsV RX9 28 RX9 yX9_rest wsX9_rest) := goodIn_app (goodIn_of _ (by decide +kernel)) ggX9_costFrom_X9_rest
theorem dX9_costFrom_0 : decode cX9_costFrom 0 = .ok (.iload_n 2, 1) := by decide +kernel
theorem dX9_costFrom_1 : decode cX9_costFrom 1 = .ok (.iload_n 3, 1) := by decide +kernel
theorem dX9_costFrom_2 : decode cX9_costFrom 2 = .ok (.isub, 1) := by decide +kernel
theorem dX9_costFrom_3 : decode cX9_costFrom 3 = .ok (.invokestatic 45, 3) := by decide +kernel
theorem dX9_costFrom_6 : decode cX9_costFrom 6 = .ok (.aload_n 0, 1) := by decide +kernel
theorem dX9_costFrom_7 : decode cX9_costFrom 7 = .ok (.aload_n 1, 1) := by decide +kernel
theorem dX9_costFrom_8 : decode cX9_costFrom 8 = .ok (.getfield 49, 3) := by decide +kernel
theorem dX9_costFrom_11 : decode cX9_costFrom 11 = .ok (.aload_n 1, 1) := by decide +kernel
theorem dX9_costFrom_12 : decode cX9_costFrom 12 = .ok (.invokevirtual 55, 3) := by decide +kernel
theorem dX9_costFrom_15 : decode cX9_costFrom 15 = .ok (.iload_n 3, 1) := by decide +kernel
theorem dX9_costFrom_16 : decode cX9_costFrom 16 = .ok (.aload_n 1, 1) := by decide +kernel
theorem dX9_costFrom_17 : decode cX9_costFrom 17 = .ok (.getfield 59, 3) := by decide +kernel
theorem dX9_costFrom_20 : decode cX9_costFrom 20 = .ok (.isub, 1) := by decide +kernel
theorem dX9_costFrom_21 : decode cX9_costFrom 21 = .ok (.invokevirtual 28, 3) := by decide +kernel
theorem dX9_costFrom_24 : decode cX9_costFrom 24 = .ok (.iadd, 1) := by decide +kernel
theorem dX9_costFrom_25 : decode cX9_costFrom 25 = .ok (.ireturn, 1) := by decide +kernel
set_option maxRecDepth 20000 in
theorem ggX9_firstFrom_X9_costFrom : GoodIn wsX9_firstFrom wsX9_costFrom := goodIn_r _ [6, 7, 8, 9, 10, 11, 12, 13, 14, 15, 16, 17, 18, 19, 20, 5, 21, 1, 22, 23, 24, 25, 26, 27, 28, 29, 30, 31, 32, 33, 34, 35, 36, 37, 38] (by decide +kernel) (by decide +kernel)
set_option maxRecDepth 20000 in
theorem gX9_firstFrom_X9_costFrom : GoodIn wsX9_firstFrom (wsV RX9 65 RX9 yX9_costFrom wsX9_costFrom) := goodIn_app (goodIn_of _ (by decide +kernel)) ggX9_firstFrom_X9_costFrom
theorem dX9_firstFrom_0 : decode cX9_firstFrom 0 = .ok (.ldc 27, 2) := by decide +kernel
theorem dX9_firstFrom_2 : decode cX9_firstFrom 2 = .ok (.istore_n 3, 1) := by decide +kernel
theorem dX9_firstFrom_3 : decode cX9_firstFrom 3 = .ok (.iconst 0, 1) := by decide +kernel
theorem dX9_firstFrom_4 : decode cX9_firstFrom 4 = .ok (.istore 4, 2) := by decide +kernel
theorem dX9_firstFrom_6 : decode cX9_firstFrom 6 = .ok (.aload_n 1, 1) := by decide +kernel
theorem dX9_firstFrom_7 : decode cX9_firstFrom 7 = .ok (.getfield 59, 3) := by decide +kernel
theorem dX9_firstFrom_10 : decode cX9_firstFrom 10 = .ok (.iconst 1, 1) := by decide +kernel
theorem dX9_firstFrom_11 : decode cX9_firstFrom 11 = .ok (.iadd, 1) := by decide +kernel
theorem dX9_firstFrom_12 : decode cX9_firstFrom 12 = .ok (.istore 5, 2) := by decide +kernel
theorem dX9_firstFrom_14 : decode cX9_firstFrom 14 = .ok (.iload 5, 2) := by decide +kernel
theorem dX9_firstFrom_16 : decode cX9_firstFrom 16 = .ok (.aload_n 1, 1) := by decide +kernel
theorem dX9_firstFrom_17 : decode cX9_firstFrom 17 = .ok (.getfield 62, 3) := by decide +kernel
theorem dX9_firstFrom_20 : decode cX9_firstFrom 20 = .ok (.if_icmp .gt 32, 3) := by decide +kernel
theorem dX9_firstFrom_23 : decode cX9_firstFrom 23 = .ok (.aload_n 0, 1) := by decide +kernel
theorem dX9_firstFrom_24 : decode cX9_firstFrom 24 = .ok (.aload_n 1, 1) := by decide +kernel
theorem dX9_firstFrom_25 : decode cX9_firstFrom 25 = .ok (.iload_n 2, 1) := by decide +kernel
theorem dX9_firstFrom_26 : decode cX9_firstFrom 26 = .ok (.iload 5, 2) := by decide +kernel
theorem dX9_firstFrom_28 : decode cX9_firstFrom 28 = .ok (.invokevirtual 65, 3) := by decide +kernel
theorem dX9_firstFrom_31 : decode cX9_firstFrom 31 = .ok (.istore 6, 2) := by decide +kernel
theorem dX9_firstFrom_33 : decode cX9_firstFrom 33 = .ok (.iload 6, 2) := by decide +kernel
theorem dX9_firstFrom_35 : decode cX9_firstFrom 35 = .ok (.iload_n 3, 1) := by decide +kernel
theorem dX9_firstFrom_36 : decode cX9_firstFrom 36 = .ok (.if_icmp .ge 10, 3) := by decide +kernel
theorem dX9_firstFrom_39 : decode cX9_firstFrom 39 = .ok (.iload 6, 2) := by decide +kernel
theorem dX9_firstFrom_41 : decode cX9_firstFrom 41 = .ok (.istore_n 3, 1) := by decide +kernel
theorem dX9_firstFrom_42 : decode cX9_firstFrom 42 = .ok (.iload 5, 2) := by decide +kernel
theorem dX9_firstFrom_44 : decode cX9_firstFrom 44 = .ok (.istore 4, 2) := by decide +kernel
theorem dX9_firstFrom_46 : decode cX9_firstFrom 46 = .ok (.iinc 5 1, 3) := by decide +kernel
theorem dX9_firstFrom_49 : decode cX9_firstFrom 49 = .ok (.goto (-35), 3) := by decide +kernel
theorem dX9_firstFrom_52 : decode cX9_firstFrom 52 = .ok (.iload 4, 2) := by decide +kernel
theorem dX9_firstFrom_54 : decode cX9_firstFrom 54 = .ok (.ireturn, 1) := by decide +kernel
set_option maxRecDepth 20000 in
theorem ggX10_init_X7_init : GoodIn wsX10_init wsX7_init := goodIn_r _ [11, 12, 2, 3] (by decide +kernel) (by decide +kernel)
set_option maxRecDepth 20000 in
theorem gX10_init_X7_init_n17 : GoodIn wsX10_init (wsX7_init) := ggX10_init_X7_init
theorem dX10_init_0 : decode cX10_init 0 = .ok (.aload_n 0, 1) := by decide +kernel
theorem dX10_init_1 : decode cX10_init 1 = .ok (.invokespecial 3, 3) := by decide +kernel
theorem dX10_init_4 : decode cX10_init 4 = .ok (.aload_n 0, 1) := by decide +kernel
theorem dX10_init_5 : decode cX10_init 5 = .ok (.bipush 60, 2) := by decide +kernel
theorem dX10_init_7 : decode cX10_init 7 = .ok (.newarray .int, 2) := by decide +kernel
theorem dX10_init_9 : decode cX10_init 9 = .ok (.putfield 9, 3) := by decide +kernel
theorem dX10_init_12 : decode cX10_init 12 = .ok (.aload_n 0, 1) := by decide +kernel
theorem dX10_init_13 : decode cX10_init 13 = .ok (.new 15, 3) := by decide +kernel
theorem dX10_init_16 : decode cX10_init 16 = .ok (.dup, 1) := by decide +kernel
theorem dX10_init_17 : decode cX10_init 17 = .ok (.invokespecial 17, 3) := by decide +kernel
theorem dX10_init_20 : decode cX10_init 20 = .ok (.putfield 18, 3) := by decide +kernel
theorem dX10_init_23 : decode cX10_init 23 = .ok (.return_, 1) := by decide +kernel
set_option maxRecDepth 20000 in
theorem ggX10_begin_X7_become : GoodIn wsX10_begin wsX7_become := goodIn_r _ [8, 9, 10, 11, 16, 17, 18] (by decide +kernel) (by decide +kernel)
set_option maxRecDepth 20000 in
theorem gX10_begin_X7_become : GoodIn wsX10_begin (wsV RX10 22 RX7 yX7_become wsX7_become) := goodIn_app (goodIn_of _ (by decide +kernel)) ggX10_begin_X7_become
theorem dX10_begin_0 : decode cX10_begin 0 = .ok (.aload_n 0, 1) := by decide +kernel
theorem dX10_begin_1 : decode cX10_begin 1 = .ok (.getfield 18, 3) := by decide +kernel
theorem dX10_begin_4 : decode cX10_begin 4 = .ok (.iconst 0, 1) := by decide +kernel
theorem dX10_begin_5 : decode cX10_begin 5 = .ok (.iload_n 1, 1) := by decide +kernel
theorem dX10_begin_6 : decode cX10_begin 6 = .ok (.iload_n 2, 1) := by decide +kernel
theorem dX10_begin_7 : decode cX10_begin 7 = .ok (.invokevirtual 22, 3) := by decide +kernel
theorem dX10_begin_10 : decode cX10_begin 10 = .ok (.aload_n 0, 1) := by decide +kernel
theorem dX10_begin_11 : decode cX10_begin 11 = .ok (.iconst 0, 1) := by decide +kernel
theorem dX10_begin_12 : decode cX10_begin 12 = .ok (.putfield 26, 3) := by decide +kernel
theorem dX10_begin_15 : decode cX10_begin 15 = .ok (.aload_n 0, 1) := by decide +kernel
theorem dX10_begin_16 : decode cX10_begin 16 = .ok (.iconst 0, 1) := by decide +kernel
theorem dX10_begin_17 : decode cX10_begin 17 = .ok (.putfield 30, 3) := by decide +kernel
theorem dX10_begin_20 : decode cX10_begin 20 = .ok (.return_, 1) := by decide +kernel
set_option maxRecDepth 20000 in
theorem ggX10_add_X7_part : GoodIn wsX10_add wsX7_part := goodIn_r _ [9, 10, 11, 12, 13, 14, 15, 16, 17, 18, 19, 24, 25, 26] (by decide +kernel) (by decide +kernel)
set_option maxRecDepth 20000 in
theorem gX10_add_X7_part : GoodIn wsX10_add (wsV RX10 33 RX7 yX7_part wsX7_part) := goodIn_app (goodIn_of _ (by decide +kernel)) ggX10_add_X7_part
theorem dX10_add_0 : decode cX10_add 0 = .ok (.aload_n 0, 1) := by decide +kernel
theorem dX10_add_1 : decode cX10_add 1 = .ok (.getfield 26, 3) := by decide +kernel
theorem dX10_add_4 : decode cX10_add 4 = .ok (.bipush 60, 2) := by decide +kernel
theorem dX10_add_6 : decode cX10_add 6 = .ok (.if_icmp .lt 4, 3) := by decide +kernel
theorem dX10_add_9 : decode cX10_add 9 = .ok (.return_, 1) := by decide +kernel
theorem dX10_add_10 : decode cX10_add 10 = .ok (.aload_n 0, 1) := by decide +kernel
theorem dX10_add_11 : decode cX10_add 11 = .ok (.getfield 9, 3) := by decide +kernel
theorem dX10_add_14 : decode cX10_add 14 = .ok (.aload_n 0, 1) := by decide +kernel
theorem dX10_add_15 : decode cX10_add 15 = .ok (.getfield 26, 3) := by decide +kernel
theorem dX10_add_18 : decode cX10_add 18 = .ok (.iload_n 1, 1) := by decide +kernel
theorem dX10_add_19 : decode cX10_add 19 = .ok (.iastore, 1) := by decide +kernel
theorem dX10_add_20 : decode cX10_add 20 = .ok (.aload_n 0, 1) := by decide +kernel
theorem dX10_add_21 : decode cX10_add 21 = .ok (.dup, 1) := by decide +kernel
theorem dX10_add_22 : decode cX10_add 22 = .ok (.getfield 26, 3) := by decide +kernel
theorem dX10_add_25 : decode cX10_add 25 = .ok (.iconst 1, 1) := by decide +kernel
theorem dX10_add_26 : decode cX10_add 26 = .ok (.iadd, 1) := by decide +kernel
theorem dX10_add_27 : decode cX10_add 27 = .ok (.putfield 26, 3) := by decide +kernel
theorem dX10_add_30 : decode cX10_add 30 = .ok (.iload_n 2, 1) := by decide +kernel
theorem dX10_add_31 : decode cX10_add 31 = .ok (.iload_n 1, 1) := by decide +kernel
theorem dX10_add_32 : decode cX10_add 32 = .ok (.if_icmp .ge 7, 3) := by decide +kernel
theorem dX10_add_35 : decode cX10_add 35 = .ok (.iconst 1, 1) := by decide +kernel
theorem dX10_add_36 : decode cX10_add 36 = .ok (.goto 4, 3) := by decide +kernel
theorem dX10_add_39 : decode cX10_add 39 = .ok (.iconst 0, 1) := by decide +kernel
theorem dX10_add_40 : decode cX10_add 40 = .ok (.istore_n 3, 1) := by decide +kernel
theorem dX10_add_41 : decode cX10_add 41 = .ok (.iload_n 3, 1) := by decide +kernel
theorem dX10_add_42 : decode cX10_add 42 = .ok (.ifCond .eq 13, 3) := by decide +kernel
theorem dX10_add_45 : decode cX10_add 45 = .ok (.aload_n 0, 1) := by decide +kernel
theorem dX10_add_46 : decode cX10_add 46 = .ok (.dup, 1) := by decide +kernel
theorem dX10_add_47 : decode cX10_add 47 = .ok (.getfield 30, 3) := by decide +kernel
theorem dX10_add_50 : decode cX10_add 50 = .ok (.iconst 1, 1) := by decide +kernel
theorem dX10_add_51 : decode cX10_add 51 = .ok (.iadd, 1) := by decide +kernel
theorem dX10_add_52 : decode cX10_add 52 = .ok (.putfield 30, 3) := by decide +kernel
theorem dX10_add_55 : decode cX10_add 55 = .ok (.aload_n 0, 1) := by decide +kernel
theorem dX10_add_56 : decode cX10_add 56 = .ok (.getfield 18, 3) := by decide +kernel
theorem dX10_add_59 : decode cX10_add 59 = .ok (.iload_n 1, 1) := by decide +kernel
theorem dX10_add_60 : decode cX10_add 60 = .ok (.iload_n 3, 1) := by decide +kernel
theorem dX10_add_61 : decode cX10_add 61 = .ok (.invokevirtual 33, 3) := by decide +kernel
theorem dX10_add_64 : decode cX10_add 64 = .ok (.return_, 1) := by decide +kernel
theorem dX10_stepAt_0 : decode cX10_stepAt 0 = .ok (.iload_n 1, 1) := by decide +kernel
theorem dX10_stepAt_1 : decode cX10_stepAt 1 = .ok (.ifCond .lt 20, 3) := by decide +kernel
theorem dX10_stepAt_4 : decode cX10_stepAt 4 = .ok (.iload_n 1, 1) := by decide +kernel
theorem dX10_stepAt_5 : decode cX10_stepAt 5 = .ok (.aload_n 0, 1) := by decide +kernel
theorem dX10_stepAt_6 : decode cX10_stepAt 6 = .ok (.getfield 26, 3) := by decide +kernel
theorem dX10_stepAt_9 : decode cX10_stepAt 9 = .ok (.if_icmp .ge 12, 3) := by decide +kernel
theorem dX10_stepAt_12 : decode cX10_stepAt 12 = .ok (.aload_n 0, 1) := by decide +kernel
theorem dX10_stepAt_13 : decode cX10_stepAt 13 = .ok (.getfield 9, 3) := by decide +kernel
theorem dX10_stepAt_16 : decode cX10_stepAt 16 = .ok (.iload_n 1, 1) := by decide +kernel
theorem dX10_stepAt_17 : decode cX10_stepAt 17 = .ok (.iaload, 1) := by decide +kernel
theorem dX10_stepAt_18 : decode cX10_stepAt 18 = .ok (.goto 5, 3) := by decide +kernel
theorem dX10_stepAt_21 : decode cX10_stepAt 21 = .ok (.bipush (-2), 2) := by decide +kernel
theorem dX10_stepAt_23 : decode cX10_stepAt 23 = .ok (.ireturn, 1) := by decide +kernel
set_option maxRecDepth 20000 in
theorem ggX11_init_X8_init : GoodIn wsX11_init wsX8_init := goodIn_r _ [53, 54, 2, 3, 55, 56, 57, 58, 59, 124, 125, 126, 127, 128, 129] (by decide +kernel) (by decide +kernel)
set_option maxRecDepth 20000 in
theorem gX11_init_X8_init_n9 : GoodIn wsX11_init (wsX8_init) := ggX11_init_X8_init
set_option maxRecDepth 20000 in
theorem ggX11_init_X3_init : GoodIn wsX11_init wsX3_init := goodIn_r _ [61, 62, 2, 3, 55, 63, 64, 65, 66, 147, 148, 149, 150, 151, 152, 153, 154, 155, 156] (by decide +kernel) (by decide +kernel)
set_option maxRecDepth 20000 in
theorem gX11_init_X3_init_n18 : GoodIn wsX11_init (wsX3_init) := ggX11_init_X3_init
set_option maxRecDepth 20000 in
theorem ggX11_init_X2_init : GoodIn wsX11_init wsX2_init := goodIn_r _ [69, 70, 2, 3, 71, 55, 72, 73, 74, 75, 76, 157, 158, 159, 160, 161] (by decide +kernel) (by decide +kernel)
set_option maxRecDepth 20000 in
theorem gX11_init_X2_init : GoodIn wsX11_init (wsX2_init) := ggX11_init_X2_init
set_option maxRecDepth 20000 in
theorem ggX11_init_X4_init : GoodIn wsX11_init wsX4_init := goodIn_r _ [78, 79, 2, 3, 55, 80, 81, 82, 83, 84, 85, 86, 162, 163, 164, 165, 166, 167, 168, 169] (by decide +kernel) (by decide +kernel)
set_option maxRecDepth 20000 in
theorem gX11_init_X4_init_n40 : GoodIn wsX11_init (wsX4_init) := ggX11_init_X4_init
set_option maxRecDepth 20000 in
theorem ggX11_init_X9_init : GoodIn wsX11_init wsX9_init := goodIn_r _ [88, 89, 2, 3, 90, 55, 91, 92, 170, 171, 172] (by decide +kernel) (by decide +kernel)
set_option maxRecDepth 20000 in
theorem gX11_init_X9_init_n47 : GoodIn wsX11_init (wsX9_init) := ggX11_init_X9_init
set_option maxRecDepth 20000 in
theorem ggX11_init_X5_init : GoodIn wsX11_init wsX5_init := goodIn_r _ [94, 95, 2, 3, 96, 55, 97, 173, 174] (by decide +kernel) (by decide +kernel)
set_option maxRecDepth 20000 in
theorem gX11_init_X5_init_n54 : GoodIn wsX11_init (wsX5_init) := ggX11_init_X5_init
set_option maxRecDepth 20000 in
theorem ggX11_init_X7_init : GoodIn wsX11_init wsX7_init := goodIn_r _ [99, 100, 2, 3] (by decide +kernel) (by decide +kernel)
set_option maxRecDepth 20000 in
theorem gX11_init_X7_init_n61 : GoodIn wsX11_init (wsX7_init) := ggX11_init_X7_init
set_option maxRecDepth 20000 in
theorem ggX11_init_X10_init : GoodIn wsX11_init wsX10_init := goodIn_r _ [102, 103, 2, 3, 55, 104, 105, 31, 32, 106, 98, 99, 100, 178, 179, 180, 181, 175, 176, 177] (by decide +kernel) (by decide +kernel)
set_option maxRecDepth 20000 in
theorem gX11_init_X10_init_n68 : GoodIn wsX11_init (wsX10_init) := ggX11_init_X10_init
set_option maxRecDepth 20000 in
theorem ggX11_init_X1_init : GoodIn wsX11_init wsX1_init := goodIn_r _ [108, 109, 2, 3, 110, 31, 32, 111, 98, 99, 100, 175, 176, 177, 182, 183, 184, 185, 186, 187, 188, 189] (by decide +kernel) (by decide +kernel)
set_option maxRecDepth 20000 in
theorem gX11_init_X1_init_n78 : GoodIn wsX11_init (wsX1_init) := ggX11_init_X1_init
set_option maxRecDepth 20000 in
theorem ggX11_init_X0_init : GoodIn wsX11_init wsX0_init := goodIn_r _ [113, 114, 2, 3, 55, 115, 116, 190, 191, 192, 193, 194, 195] (by decide +kernel) (by decide +kernel)
set_option maxRecDepth 20000 in
theorem gX11_init_X0_init_n88 : GoodIn wsX11_init (wsX0_init) := ggX11_init_X0_init
set_option maxRecDepth 20000 in
theorem ggX11_init_X6_init : GoodIn wsX11_init wsX6_init := goodIn_r _ [118, 119, 2, 3, 120, 121, 122, 123, 196, 197, 198, 199] (by decide +kernel) (by decide +kernel)
set_option maxRecDepth 20000 in
theorem gX11_init_X6_init_n99 : GoodIn wsX11_init (wsX6_init) := ggX11_init_X6_init
theorem dX11_init_0 : decode cX11_init 0 = .ok (.aload_n 0, 1) := by decide +kernel
theorem dX11_init_1 : decode cX11_init 1 = .ok (.invokespecial 1, 3) := by decide +kernel
theorem dX11_init_4 : decode cX11_init 4 = .ok (.aload_n 0, 1) := by decide +kernel
theorem dX11_init_5 : decode cX11_init 5 = .ok (.new 7, 3) := by decide +kernel
theorem dX11_init_8 : decode cX11_init 8 = .ok (.dup, 1) := by decide +kernel
theorem dX11_init_9 : decode cX11_init 9 = .ok (.invokespecial 9, 3) := by decide +kernel
theorem dX11_init_12 : decode cX11_init 12 = .ok (.putfield 10, 3) := by decide +kernel
theorem dX11_init_15 : decode cX11_init 15 = .ok (.aload_n 0, 1) := by decide +kernel
theorem dX11_init_16 : decode cX11_init 16 = .ok (.new 16, 3) := by decide +kernel
theorem dX11_init_19 : decode cX11_init 19 = .ok (.dup, 1) := by decide +kernel
theorem dX11_init_20 : decode cX11_init 20 = .ok (.invokespecial 18, 3) := by decide +kernel
theorem dX11_init_23 : decode cX11_init 23 = .ok (.putfield 19, 3) := by decide +kernel
theorem dX11_init_26 : decode cX11_init 26 = .ok (.aload_n 0, 1) := by decide +kernel
theorem dX11_init_27 : decode cX11_init 27 = .ok (.new 23, 3) := by decide +kernel
theorem dX11_init_30 : decode cX11_init 30 = .ok (.dup, 1) := by decide +kernel
theorem dX11_init_31 : decode cX11_init 31 = .ok (.iconst 0, 1) := by decide +kernel
theorem dX11_init_32 : decode cX11_init 32 = .ok (.invokespecial 25, 3) := by decide +kernel
theorem dX11_init_35 : decode cX11_init 35 = .ok (.putfield 28, 3) := by decide +kernel
theorem dX11_init_38 : decode cX11_init 38 = .ok (.aload_n 0, 1) := by decide +kernel
theorem dX11_init_39 : decode cX11_init 39 = .ok (.new 23, 3) := by decide +kernel
theorem dX11_init_42 : decode cX11_init 42 = .ok (.dup, 1) := by decide +kernel
theorem dX11_init_43 : decode cX11_init 43 = .ok (.iconst 0, 1) := by decide +kernel
theorem dX11_init_44 : decode cX11_init 44 = .ok (.invokespecial 25, 3) := by decide +kernel
theorem dX11_init_47 : decode cX11_init 47 = .ok (.putfield 32, 3) := by decide +kernel
theorem dX11_init_50 : decode cX11_init 50 = .ok (.aload_n 0, 1) := by decide +kernel
theorem dX11_init_51 : decode cX11_init 51 = .ok (.new 23, 3) := by decide +kernel
theorem dX11_init_54 : decode cX11_init 54 = .ok (.dup, 1) := by decide +kernel
theorem dX11_init_55 : decode cX11_init 55 = .ok (.iconst 1, 1) := by decide +kernel
theorem dX11_init_56 : decode cX11_init 56 = .ok (.invokespecial 25, 3) := by decide +kernel
theorem dX11_init_59 : decode cX11_init 59 = .ok (.putfield 35, 3) := by decide +kernel
theorem dX11_init_62 : decode cX11_init 62 = .ok (.aload_n 0, 1) := by decide +kernel
theorem dX11_init_63 : decode cX11_init 63 = .ok (.new 38, 3) := by decide +kernel
theorem dX11_init_66 : decode cX11_init 66 = .ok (.dup, 1) := by decide +kernel
theorem dX11_init_67 : decode cX11_init 67 = .ok (.invokespecial 40, 3) := by decide +kernel
theorem dX11_init_70 : decode cX11_init 70 = .ok (.putfield 41, 3) := by decide +kernel
theorem dX11_init_73 : decode cX11_init 73 = .ok (.aload_n 0, 1) := by decide +kernel
theorem dX11_init_74 : decode cX11_init 74 = .ok (.new 45, 3) := by decide +kernel
theorem dX11_init_77 : decode cX11_init 77 = .ok (.dup, 1) := by decide +kernel
theorem dX11_init_78 : decode cX11_init 78 = .ok (.invokespecial 47, 3) := by decide +kernel
theorem dX11_init_81 : decode cX11_init 81 = .ok (.putfield 48, 3) := by decide +kernel
theorem dX11_init_84 : decode cX11_init 84 = .ok (.aload_n 0, 1) := by decide +kernel
theorem dX11_init_85 : decode cX11_init 85 = .ok (.new 52, 3) := by decide +kernel
theorem dX11_init_88 : decode cX11_init 88 = .ok (.dup, 1) := by decide +kernel
theorem dX11_init_89 : decode cX11_init 89 = .ok (.invokespecial 54, 3) := by decide +kernel
theorem dX11_init_92 : decode cX11_init 92 = .ok (.putfield 55, 3) := by decide +kernel
theorem dX11_init_95 : decode cX11_init 95 = .ok (.aload_n 0, 1) := by decide +kernel
theorem dX11_init_96 : decode cX11_init 96 = .ok (.new 59, 3) := by decide +kernel
theorem dX11_init_99 : decode cX11_init 99 = .ok (.dup, 1) := by decide +kernel
theorem dX11_init_100 : decode cX11_init 100 = .ok (.invokespecial 61, 3) := by decide +kernel
theorem dX11_init_103 : decode cX11_init 103 = .ok (.putfield 62, 3) := by decide +kernel
theorem dX11_init_106 : decode cX11_init 106 = .ok (.aload_n 0, 1) := by decide +kernel
theorem dX11_init_107 : decode cX11_init 107 = .ok (.new 66, 3) := by decide +kernel
theorem dX11_init_110 : decode cX11_init 110 = .ok (.dup, 1) := by decide +kernel
theorem dX11_init_111 : decode cX11_init 111 = .ok (.invokespecial 68, 3) := by decide +kernel
theorem dX11_init_114 : decode cX11_init 114 = .ok (.putfield 69, 3) := by decide +kernel
theorem dX11_init_117 : decode cX11_init 117 = .ok (.aload_n 0, 1) := by decide +kernel
theorem dX11_init_118 : decode cX11_init 118 = .ok (.new 59, 3) := by decide +kernel
theorem dX11_init_121 : decode cX11_init 121 = .ok (.dup, 1) := by decide +kernel
theorem dX11_init_122 : decode cX11_init 122 = .ok (.invokespecial 61, 3) := by decide +kernel
theorem dX11_init_125 : decode cX11_init 125 = .ok (.putfield 73, 3) := by decide +kernel
theorem dX11_init_128 : decode cX11_init 128 = .ok (.aload_n 0, 1) := by decide +kernel
theorem dX11_init_129 : decode cX11_init 129 = .ok (.new 76, 3) := by decide +kernel
theorem dX11_init_132 : decode cX11_init 132 = .ok (.dup, 1) := by decide +kernel
theorem dX11_init_133 : decode cX11_init 133 = .ok (.invokespecial 78, 3) := by decide +kernel
theorem dX11_init_136 : decode cX11_init 136 = .ok (.putfield 79, 3) := by decide +kernel
theorem dX11_init_139 : decode cX11_init 139 = .ok (.aload_n 0, 1) := by decide +kernel
theorem dX11_init_140 : decode cX11_init 140 = .ok (.new 76, 3) := by decide +kernel
theorem dX11_init_143 : decode cX11_init 143 = .ok (.dup, 1) := by decide +kernel
