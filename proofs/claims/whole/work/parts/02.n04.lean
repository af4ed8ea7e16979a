theorem dX4_endsAt_22 : decode cX4_endsAt 22 = .ok (.iinc 2 1, 3) := by decide +kernel
theorem dX4_endsAt_25 : decode cX4_endsAt 25 = .ok (.iinc 3 1, 3) := by decide +kernel
theorem dX4_endsAt_28 : decode cX4_endsAt 28 = .ok (.goto (-24), 3) := by decide +kernel
theorem dX4_endsAt_31 : decode cX4_endsAt 31 = .ok (.iload_n 2, 1) := by decide +kernel
theorem dX4_endsAt_32 : decode cX4_endsAt 32 = .ok (.ireturn, 1) := by decide +kernel
theorem dX4_knownUpTo_0 : decode cX4_knownUpTo 0 = .ok (.iconst 0, 1) := by decide +kernel
theorem dX4_knownUpTo_1 : decode cX4_knownUpTo 1 = .ok (.istore_n 2, 1) := by decide +kernel
theorem dX4_knownUpTo_2 : decode cX4_knownUpTo 2 = .ok (.iconst 1, 1) := by decide +kernel
theorem dX4_knownUpTo_3 : decode cX4_knownUpTo 3 = .ok (.istore_n 3, 1) := by decide +kernel
theorem dX4_knownUpTo_4 : decode cX4_knownUpTo 4 = .ok (.iload_n 3, 1) := by decide +kernel
theorem dX4_knownUpTo_5 : decode cX4_knownUpTo 5 = .ok (.aload_n 0, 1) := by decide +kernel
theorem dX4_knownUpTo_6 : decode cX4_knownUpTo 6 = .ok (.getfield 30, 3) := by decide +kernel
theorem dX4_knownUpTo_9 : decode cX4_knownUpTo 9 = .ok (.if_icmp .gt 45, 3) := by decide +kernel
theorem dX4_knownUpTo_12 : decode cX4_knownUpTo 12 = .ok (.aload_n 0, 1) := by decide +kernel
theorem dX4_knownUpTo_13 : decode cX4_knownUpTo 13 = .ok (.getfield 24, 3) := by decide +kernel
theorem dX4_knownUpTo_16 : decode cX4_knownUpTo 16 = .ok (.iload_n 3, 1) := by decide +kernel
theorem dX4_knownUpTo_17 : decode cX4_knownUpTo 17 = .ok (.iaload, 1) := by decide +kernel
theorem dX4_knownUpTo_18 : decode cX4_knownUpTo 18 = .ok (.iconst (-1), 1) := by decide +kernel
theorem dX4_knownUpTo_19 : decode cX4_knownUpTo 19 = .ok (.if_icmp .ne 12, 3) := by decide +kernel
theorem dX4_knownUpTo_22 : decode cX4_knownUpTo 22 = .ok (.aload_n 0, 1) := by decide +kernel
theorem dX4_knownUpTo_23 : decode cX4_knownUpTo 23 = .ok (.getfield 27, 3) := by decide +kernel
theorem dX4_knownUpTo_26 : decode cX4_knownUpTo 26 = .ok (.iload_n 3, 1) := by decide +kernel
theorem dX4_knownUpTo_27 : decode cX4_knownUpTo 27 = .ok (.iaload, 1) := by decide +kernel
theorem dX4_knownUpTo_28 : decode cX4_knownUpTo 28 = .ok (.goto 9, 3) := by decide +kernel
theorem dX4_knownUpTo_31 : decode cX4_knownUpTo 31 = .ok (.aload_n 0, 1) := by decide +kernel
theorem dX4_knownUpTo_32 : decode cX4_knownUpTo 32 = .ok (.getfield 24, 3) := by decide +kernel
theorem dX4_knownUpTo_35 : decode cX4_knownUpTo 35 = .ok (.iload_n 3, 1) := by decide +kernel
theorem dX4_knownUpTo_36 : decode cX4_knownUpTo 36 = .ok (.iaload, 1) := by decide +kernel
theorem dX4_knownUpTo_37 : decode cX4_knownUpTo 37 = .ok (.istore 4, 2) := by decide +kernel
theorem dX4_knownUpTo_39 : decode cX4_knownUpTo 39 = .ok (.iload 4, 2) := by decide +kernel
theorem dX4_knownUpTo_41 : decode cX4_knownUpTo 41 = .ok (.iload_n 1, 1) := by decide +kernel
theorem dX4_knownUpTo_42 : decode cX4_knownUpTo 42 = .ok (.if_icmp .lt 6, 3) := by decide +kernel
theorem dX4_knownUpTo_45 : decode cX4_knownUpTo 45 = .ok (.iinc 2 1, 3) := by decide +kernel
theorem dX4_knownUpTo_48 : decode cX4_knownUpTo 48 = .ok (.iinc 3 1, 3) := by decide +kernel
theorem dX4_knownUpTo_51 : decode cX4_knownUpTo 51 = .ok (.goto (-47), 3) := by decide +kernel
theorem dX4_knownUpTo_54 : decode cX4_knownUpTo 54 = .ok (.iload_n 2, 1) := by decide +kernel
theorem dX4_knownUpTo_55 : decode cX4_knownUpTo 55 = .ok (.ireturn, 1) := by decide +kernel
set_option maxRecDepth 20000 in
theorem ggX4_peopleWithWater_X4_hasWell : GoodIn wsX4_peopleWithWater wsX4_hasWell := goodIn_r _ [7, 8, 9, 10, 11, 12, 13, 14, 15] (by decide +kernel) (by decide +kernel)
set_option maxRecDepth 20000 in
theorem gX4_peopleWithWater_X4_hasWell : GoodIn wsX4_peopleWithWater (wsV RX4 34 RX4 yX4_hasWell wsX4_hasWell) := goodIn_app (goodIn_of _ (by decide +kernel)) ggX4_peopleWithWater_X4_hasWell
theorem dX4_peopleWithWater_0 : decode cX4_peopleWithWater 0 = .ok (.iconst 0, 1) := by decide +kernel
theorem dX4_peopleWithWater_1 : decode cX4_peopleWithWater 1 = .ok (.istore_n 1, 1) := by decide +kernel
theorem dX4_peopleWithWater_2 : decode cX4_peopleWithWater 2 = .ok (.iconst 1, 1) := by decide +kernel
theorem dX4_peopleWithWater_3 : decode cX4_peopleWithWater 3 = .ok (.istore_n 2, 1) := by decide +kernel
theorem dX4_peopleWithWater_4 : decode cX4_peopleWithWater 4 = .ok (.iload_n 2, 1) := by decide +kernel
theorem dX4_peopleWithWater_5 : decode cX4_peopleWithWater 5 = .ok (.aload_n 0, 1) := by decide +kernel
theorem dX4_peopleWithWater_6 : decode cX4_peopleWithWater 6 = .ok (.getfield 30, 3) := by decide +kernel
theorem dX4_peopleWithWater_9 : decode cX4_peopleWithWater 9 = .ok (.if_icmp .gt 26, 3) := by decide +kernel
theorem dX4_peopleWithWater_12 : decode cX4_peopleWithWater 12 = .ok (.aload_n 0, 1) := by decide +kernel
theorem dX4_peopleWithWater_13 : decode cX4_peopleWithWater 13 = .ok (.iload_n 2, 1) := by decide +kernel
theorem dX4_peopleWithWater_14 : decode cX4_peopleWithWater 14 = .ok (.invokevirtual 34, 3) := by decide +kernel
theorem dX4_peopleWithWater_17 : decode cX4_peopleWithWater 17 = .ok (.ifCond .eq 12, 3) := by decide +kernel
theorem dX4_peopleWithWater_20 : decode cX4_peopleWithWater 20 = .ok (.iload_n 1, 1) := by decide +kernel
theorem dX4_peopleWithWater_21 : decode cX4_peopleWithWater 21 = .ok (.aload_n 0, 1) := by decide +kernel
theorem dX4_peopleWithWater_22 : decode cX4_peopleWithWater 22 = .ok (.getfield 15, 3) := by decide +kernel
theorem dX4_peopleWithWater_25 : decode cX4_peopleWithWater 25 = .ok (.iload_n 2, 1) := by decide +kernel
theorem dX4_peopleWithWater_26 : decode cX4_peopleWithWater 26 = .ok (.iaload, 1) := by decide +kernel
theorem dX4_peopleWithWater_27 : decode cX4_peopleWithWater 27 = .ok (.iadd, 1) := by decide +kernel
theorem dX4_peopleWithWater_28 : decode cX4_peopleWithWater 28 = .ok (.istore_n 1, 1) := by decide +kernel
theorem dX4_peopleWithWater_29 : decode cX4_peopleWithWater 29 = .ok (.iinc 2 1, 3) := by decide +kernel
theorem dX4_peopleWithWater_32 : decode cX4_peopleWithWater 32 = .ok (.goto (-28), 3) := by decide +kernel
theorem dX4_peopleWithWater_35 : decode cX4_peopleWithWater 35 = .ok (.iload_n 1, 1) := by decide +kernel
theorem dX4_peopleWithWater_36 : decode cX4_peopleWithWater 36 = .ok (.ireturn, 1) := by decide +kernel
theorem dX5_init_0 : decode cX5_init 0 = .ok (.aload_n 0, 1) := by decide +kernel
theorem dX5_init_1 : decode cX5_init 1 = .ok (.invokespecial 5, 3) := by decide +kernel
theorem dX5_init_4 : decode cX5_init 4 = .ok (.aload_n 0, 1) := by decide +kernel
theorem dX5_init_5 : decode cX5_init 5 = .ok (.bipush 64, 2) := by decide +kernel
theorem dX5_init_7 : decode cX5_init 7 = .ok (.newarray .int, 2) := by decide +kernel
theorem dX5_init_9 : decode cX5_init 9 = .ok (.putfield 13, 3) := by decide +kernel
theorem dX5_init_12 : decode cX5_init 12 = .ok (.return_, 1) := by decide +kernel
theorem dX5_set_0 : decode cX5_set 0 = .ok (.iload_n 3, 1) := by decide +kernel
theorem dX5_set_1 : decode cX5_set 1 = .ok (.iconst (-1), 1) := by decide +kernel
theorem dX5_set_2 : decode cX5_set 2 = .ok (.if_icmp .ne 7, 3) := by decide +kernel
theorem dX5_set_5 : decode cX5_set 5 = .ok (.iconst 0, 1) := by decide +kernel
theorem dX5_set_6 : decode cX5_set 6 = .ok (.goto 4, 3) := by decide +kernel
theorem dX5_set_9 : decode cX5_set 9 = .ok (.iload_n 3, 1) := by decide +kernel
theorem dX5_set_10 : decode cX5_set 10 = .ok (.istore 4, 2) := by decide +kernel
theorem dX5_set_12 : decode cX5_set 12 = .ok (.aload_n 0, 1) := by decide +kernel
theorem dX5_set_13 : decode cX5_set 13 = .ok (.getfield 13, 3) := by decide +kernel
theorem dX5_set_16 : decode cX5_set 16 = .ok (.iload_n 1, 1) := by decide +kernel
theorem dX5_set_17 : decode cX5_set 17 = .ok (.bipush 8, 2) := by decide +kernel
theorem dX5_set_19 : decode cX5_set 19 = .ok (.imul, 1) := by decide +kernel
theorem dX5_set_20 : decode cX5_set 20 = .ok (.iload_n 2, 1) := by decide +kernel
theorem dX5_set_21 : decode cX5_set 21 = .ok (.iadd, 1) := by decide +kernel
theorem dX5_set_22 : decode cX5_set 22 = .ok (.iload 4, 2) := by decide +kernel
theorem dX5_set_24 : decode cX5_set 24 = .ok (.iastore, 1) := by decide +kernel
theorem dX5_set_25 : decode cX5_set 25 = .ok (.aload_n 0, 1) := by decide +kernel
theorem dX5_set_26 : decode cX5_set 26 = .ok (.getfield 13, 3) := by decide +kernel
theorem dX5_set_29 : decode cX5_set 29 = .ok (.iload_n 2, 1) := by decide +kernel
theorem dX5_set_30 : decode cX5_set 30 = .ok (.bipush 8, 2) := by decide +kernel
theorem dX5_set_32 : decode cX5_set 32 = .ok (.imul, 1) := by decide +kernel
theorem dX5_set_33 : decode cX5_set 33 = .ok (.iload_n 1, 1) := by decide +kernel
theorem dX5_set_34 : decode cX5_set 34 = .ok (.iadd, 1) := by decide +kernel
theorem dX5_set_35 : decode cX5_set 35 = .ok (.iload 4, 2) := by decide +kernel
theorem dX5_set_37 : decode cX5_set 37 = .ok (.iastore, 1) := by decide +kernel
theorem dX5_set_38 : decode cX5_set 38 = .ok (.return_, 1) := by decide +kernel
theorem dX5_joins_0 : decode cX5_joins 0 = .ok (.aload_n 0, 1) := by decide +kernel
theorem dX5_joins_1 : decode cX5_joins 1 = .ok (.getfield 13, 3) := by decide +kernel
theorem dX5_joins_4 : decode cX5_joins 4 = .ok (.iload_n 1, 1) := by decide +kernel
theorem dX5_joins_5 : decode cX5_joins 5 = .ok (.bipush 8, 2) := by decide +kernel
theorem dX5_joins_7 : decode cX5_joins 7 = .ok (.imul, 1) := by decide +kernel
theorem dX5_joins_8 : decode cX5_joins 8 = .ok (.iload_n 2, 1) := by decide +kernel
theorem dX5_joins_9 : decode cX5_joins 9 = .ok (.iadd, 1) := by decide +kernel
theorem dX5_joins_10 : decode cX5_joins 10 = .ok (.iaload, 1) := by decide +kernel
theorem dX5_joins_11 : decode cX5_joins 11 = .ok (.ifCond .le 7, 3) := by decide +kernel
theorem dX5_joins_14 : decode cX5_joins 14 = .ok (.iconst 1, 1) := by decide +kernel
theorem dX5_joins_15 : decode cX5_joins 15 = .ok (.goto 4, 3) := by decide +kernel
theorem dX5_joins_18 : decode cX5_joins 18 = .ok (.iconst 0, 1) := by decide +kernel
theorem dX5_joins_19 : decode cX5_joins 19 = .ok (.ireturn, 1) := by decide +kernel
theorem dX5_days_0 : decode cX5_days 0 = .ok (.aload_n 0, 1) := by decide +kernel
theorem dX5_days_1 : decode cX5_days 1 = .ok (.getfield 13, 3) := by decide +kernel
theorem dX5_days_4 : decode cX5_days 4 = .ok (.iload_n 1, 1) := by decide +kernel
theorem dX5_days_5 : decode cX5_days 5 = .ok (.bipush 8, 2) := by decide +kernel
theorem dX5_days_7 : decode cX5_days 7 = .ok (.imul, 1) := by decide +kernel
theorem dX5_days_8 : decode cX5_days 8 = .ok (.iload_n 2, 1) := by decide +kernel
theorem dX5_days_9 : decode cX5_days 9 = .ok (.iadd, 1) := by decide +kernel
theorem dX5_days_10 : decode cX5_days 10 = .ok (.iaload, 1) := by decide +kernel
theorem dX5_days_11 : decode cX5_days 11 = .ok (.ireturn, 1) := by decide +kernel
set_option maxRecDepth 20000 in
theorem ggX6_init_X3_init : GoodIn wsX6_init wsX3_init := goodIn_r _ [31, 32, 2, 3, 33, 34, 35, 88, 89] (by decide +kernel) (by decide +kernel)
set_option maxRecDepth 20000 in
theorem gX6_init_X3_init_n9 : GoodIn wsX6_init (wsX3_init) := ggX6_init_X3_init
set_option maxRecDepth 20000 in
theorem ggX6_init_X0_init : GoodIn wsX6_init wsX0_init := goodIn_r _ [37, 38, 2, 3, 33, 39, 40, 41, 42, 43, 44, 45, 46, 98, 99, 100, 101, 102, 103, 104] (by decide +kernel) (by decide +kernel)
set_option maxRecDepth 20000 in
theorem gX6_init_X0_init_n18 : GoodIn wsX6_init (wsX0_init) := ggX6_init_X0_init
set_option maxRecDepth 20000 in
theorem ggX6_init_X2_init : GoodIn wsX6_init wsX2_init := goodIn_r _ [48, 49, 2, 3, 33, 50, 51, 52, 53, 54, 55, 105, 106, 107, 108, 109, 110] (by decide +kernel) (by decide +kernel)
set_option maxRecDepth 20000 in
theorem gX6_init_X2_init_n25 : GoodIn wsX6_init (wsX2_init) := ggX6_init_X2_init
set_option maxRecDepth 20000 in
theorem ggX6_init_X4_init : GoodIn wsX6_init wsX4_init := goodIn_r _ [57, 58, 2, 3, 33, 59, 60, 61, 62, 63, 64, 65, 111, 112, 113, 114, 115, 116, 117] (by decide +kernel) (by decide +kernel)
set_option maxRecDepth 20000 in
theorem gX6_init_X4_init_n32 : GoodIn wsX6_init (wsX4_init) := ggX6_init_X4_init
set_option maxRecDepth 20000 in
theorem ggX6_init_X5_init : GoodIn wsX6_init wsX5_init := goodIn_r _ [67, 68, 2, 3, 33, 69, 118] (by decide +kernel) (by decide +kernel)
set_option maxRecDepth 20000 in
theorem gX6_init_X5_init_n39 : GoodIn wsX6_init (wsX5_init) := ggX6_init_X5_init
set_option maxRecDepth 20000 in
theorem ggX6_init_X1_init : GoodIn wsX6_init wsX1_init := goodIn_r _ [71, 72, 2, 3, 73, 74, 75, 33, 76, 77, 78, 79, 80, 81, 82, 83, 84, 85, 86, 87, 119, 120, 121, 122, 123, 124, 125, 126, 127, 128, 129, 130, 131, 132] (by decide +kernel) (by decide +kernel)
set_option maxRecDepth 20000 in
theorem gX6_init_X1_init_n46 : GoodIn wsX6_init (wsX1_init) := ggX6_init_X1_init
theorem dX6_init_0 : decode cX6_init 0 = .ok (.aload_n 0, 1) := by decide +kernel
theorem dX6_init_1 : decode cX6_init 1 = .ok (.invokespecial 1, 3) := by decide +kernel
theorem dX6_init_4 : decode cX6_init 4 = .ok (.aload_n 0, 1) := by decide +kernel
theorem dX6_init_5 : decode cX6_init 5 = .ok (.new 7, 3) := by decide +kernel
theorem dX6_init_8 : decode cX6_init 8 = .ok (.dup, 1) := by decide +kernel
theorem dX6_init_9 : decode cX6_init 9 = .ok (.invokespecial 9, 3) := by decide +kernel
theorem dX6_init_12 : decode cX6_init 12 = .ok (.putfield 10, 3) := by decide +kernel
theorem dX6_init_15 : decode cX6_init 15 = .ok (.aload_n 0, 1) := by decide +kernel
theorem dX6_init_16 : decode cX6_init 16 = .ok (.new 16, 3) := by decide +kernel
theorem dX6_init_19 : decode cX6_init 19 = .ok (.dup, 1) := by decide +kernel
theorem dX6_init_20 : decode cX6_init 20 = .ok (.invokespecial 18, 3) := by decide +kernel
theorem dX6_init_23 : decode cX6_init 23 = .ok (.putfield 19, 3) := by decide +kernel
theorem dX6_init_26 : decode cX6_init 26 = .ok (.aload_n 0, 1) := by decide +kernel
theorem dX6_init_27 : decode cX6_init 27 = .ok (.new 23, 3) := by decide +kernel
theorem dX6_init_30 : decode cX6_init 30 = .ok (.dup, 1) := by decide +kernel
theorem dX6_init_31 : decode cX6_init 31 = .ok (.invokespecial 25, 3) := by decide +kernel
theorem dX6_init_34 : decode cX6_init 34 = .ok (.putfield 26, 3) := by decide +kernel
theorem dX6_init_37 : decode cX6_init 37 = .ok (.aload_n 0, 1) := by decide +kernel
theorem dX6_init_38 : decode cX6_init 38 = .ok (.new 30, 3) := by decide +kernel
theorem dX6_init_41 : decode cX6_init 41 = .ok (.dup, 1) := by decide +kernel
theorem dX6_init_42 : decode cX6_init 42 = .ok (.invokespecial 32, 3) := by decide +kernel
theorem dX6_init_45 : decode cX6_init 45 = .ok (.putfield 33, 3) := by decide +kernel
theorem dX6_init_48 : decode cX6_init 48 = .ok (.aload_n 0, 1) := by decide +kernel
theorem dX6_init_49 : decode cX6_init 49 = .ok (.new 37, 3) := by decide +kernel
theorem dX6_init_52 : decode cX6_init 52 = .ok (.dup, 1) := by decide +kernel
theorem dX6_init_53 : decode cX6_init 53 = .ok (.invokespecial 39, 3) := by decide +kernel
theorem dX6_init_56 : decode cX6_init 56 = .ok (.putfield 40, 3) := by decide +kernel
theorem dX6_init_59 : decode cX6_init 59 = .ok (.aload_n 0, 1) := by decide +kernel
theorem dX6_init_60 : decode cX6_init 60 = .ok (.new 44, 3) := by decide +kernel
theorem dX6_init_63 : decode cX6_init 63 = .ok (.dup, 1) := by decide +kernel
theorem dX6_init_64 : decode cX6_init 64 = .ok (.invokespecial 46, 3) := by decide +kernel
theorem dX6_init_67 : decode cX6_init 67 = .ok (.putfield 47, 3) := by decide +kernel
theorem dX6_init_70 : decode cX6_init 70 = .ok (.aload_n 0, 1) := by decide +kernel
theorem dX6_init_71 : decode cX6_init 71 = .ok (.iconst 0, 1) := by decide +kernel
theorem dX6_init_72 : decode cX6_init 72 = .ok (.putfield 51, 3) := by decide +kernel
theorem dX6_init_75 : decode cX6_init 75 = .ok (.aload_n 0, 1) := by decide +kernel
theorem dX6_init_76 : decode cX6_init 76 = .ok (.iconst 0, 1) := by decide +kernel
theorem dX6_init_77 : decode cX6_init 77 = .ok (.putfield 55, 3) := by decide +kernel
theorem dX6_init_80 : decode cX6_init 80 = .ok (.return_, 1) := by decide +kernel
set_option maxRecDepth 20000 in
theorem ggX6_feed_X3_hasRoom : GoodIn wsX6_feed wsX3_hasRoom := goodIn_r _ [6, 7, 25, 26] (by decide +kernel) (by decide +kernel)
set_option maxRecDepth 20000 in
theorem gX6_feed_X3_hasRoom : GoodIn wsX6_feed (wsV RX6 58 RX3 yX3_hasRoom wsX3_hasRoom) := goodIn_app (goodIn_of _ (by decide +kernel)) ggX6_feed_X3_hasRoom
set_option maxRecDepth 20000 in
theorem ggX6_feed_X3_append : GoodIn wsX6_feed wsX3_append := goodIn_r _ [11, 7, 12, 25, 26] (by decide +kernel) (by decide +kernel)
set_option maxRecDepth 20000 in
theorem gX6_feed_X3_append : GoodIn wsX6_feed (wsV RX6 62 RX3 yX3_append wsX3_append) := goodIn_app (goodIn_of _ (by decide +kernel)) ggX6_feed_X3_append
set_option maxRecDepth 20000 in
theorem ggX6_feed_X3_length : GoodIn wsX6_feed wsX3_length := goodIn_r _ [16, 7, 25, 26] (by decide +kernel) (by decide +kernel)
set_option maxRecDepth 20000 in
theorem gX6_feed_X3_length : GoodIn wsX6_feed (wsV RX6 66 RX3 yX3_length wsX3_length) := goodIn_app (goodIn_of _ (by decide +kernel)) ggX6_feed_X3_length
theorem dX6_feed_0 : decode cX6_feed 0 = .ok (.aload_n 0, 1) := by decide +kernel
theorem dX6_feed_1 : decode cX6_feed 1 = .ok (.getfield 10, 3) := by decide +kernel
theorem dX6_feed_4 : decode cX6_feed 4 = .ok (.invokevirtual 58, 3) := by decide +kernel
theorem dX6_feed_7 : decode cX6_feed 7 = .ok (.ifCond .ne 5, 3) := by decide +kernel
theorem dX6_feed_10 : decode cX6_feed 10 = .ok (.iconst (-1), 1) := by decide +kernel
theorem dX6_feed_11 : decode cX6_feed 11 = .ok (.ireturn, 1) := by decide +kernel
theorem dX6_feed_12 : decode cX6_feed 12 = .ok (.aload_n 0, 1) := by decide +kernel
theorem dX6_feed_13 : decode cX6_feed 13 = .ok (.getfield 10, 3) := by decide +kernel
theorem dX6_feed_16 : decode cX6_feed 16 = .ok (.iload_n 1, 1) := by decide +kernel
theorem dX6_feed_17 : decode cX6_feed 17 = .ok (.invokevirtual 62, 3) := by decide +kernel
theorem dX6_feed_20 : decode cX6_feed 20 = .ok (.aload_n 0, 1) := by decide +kernel
theorem dX6_feed_21 : decode cX6_feed 21 = .ok (.getfield 10, 3) := by decide +kernel
theorem dX6_feed_24 : decode cX6_feed 24 = .ok (.iload_n 2, 1) := by decide +kernel
theorem dX6_feed_25 : decode cX6_feed 25 = .ok (.invokevirtual 62, 3) := by decide +kernel
theorem dX6_feed_28 : decode cX6_feed 28 = .ok (.aload_n 0, 1) := by decide +kernel
theorem dX6_feed_29 : decode cX6_feed 29 = .ok (.getfield 10, 3) := by decide +kernel
theorem dX6_feed_32 : decode cX6_feed 32 = .ok (.iload_n 3, 1) := by decide +kernel
theorem dX6_feed_33 : decode cX6_feed 33 = .ok (.invokevirtual 62, 3) := by decide +kernel
theorem dX6_feed_36 : decode cX6_feed 36 = .ok (.aload_n 0, 1) := by decide +kernel
theorem dX6_feed_37 : decode cX6_feed 37 = .ok (.getfield 10, 3) := by decide +kernel
theorem dX6_feed_40 : decode cX6_feed 40 = .ok (.iload 4, 2) := by decide +kernel
theorem dX6_feed_42 : decode cX6_feed 42 = .ok (.invokevirtual 62, 3) := by decide +kernel
theorem dX6_feed_45 : decode cX6_feed 45 = .ok (.aload_n 0, 1) := by decide +kernel
theorem dX6_feed_46 : decode cX6_feed 46 = .ok (.getfield 10, 3) := by decide +kernel
theorem dX6_feed_49 : decode cX6_feed 49 = .ok (.iload 5, 2) := by decide +kernel
theorem dX6_feed_51 : decode cX6_feed 51 = .ok (.invokevirtual 62, 3) := by decide +kernel
theorem dX6_feed_54 : decode cX6_feed 54 = .ok (.aload_n 0, 1) := by decide +kernel
theorem dX6_feed_55 : decode cX6_feed 55 = .ok (.getfield 10, 3) := by decide +kernel
theorem dX6_feed_58 : decode cX6_feed 58 = .ok (.invokevirtual 66, 3) := by decide +kernel
theorem dX6_feed_61 : decode cX6_feed 61 = .ok (.ireturn, 1) := by decide +kernel
set_option maxRecDepth 20000 in
theorem ggX6_rules_X3_length : GoodIn wsX6_rules wsX3_length := goodIn_r _ [7, 8, 136, 137] (by decide +kernel) (by decide +kernel)
set_option maxRecDepth 20000 in
theorem gX6_rules_X3_length : GoodIn wsX6_rules (wsV RX6 66 RX3 yX3_length wsX3_length) := goodIn_app (goodIn_of _ (by decide +kernel)) ggX6_rules_X3_length
set_option maxRecDepth 20000 in
theorem ggX6_rules_X0_read : GoodIn wsX6_rules wsX0_read := goodIn_r _ [13, 14, 15, 16, 17, 18, 19, 20, 12, 21, 22, 23, 24, 25, 26, 27, 28, 29, 30, 31, 32, 6, 33, 8, 34, 35, 36, 37, 38, 39, 40, 41, 42, 43, 44, 45, 46, 47, 48, 49, 50, 51, 52, 53, 54, 55, 56, 57, 58, 59, 60, 61, 62, 63, 64, 65, 66, 67, 68, 69, 70, 71, 72, 73, 74, 75, 76, 77, 78, 79, 80, 81, 82, 83, 84, 85, 86, 87, 88, 89, 90, 91, 92, 93, 94, 95, 96, 97, 98, 99, 100, 101, 102, 103, 104, 105, 106, 107, 108, 109, 110, 111, 112, 113, 114, 115, 116, 117, 118, 119, 120, 121, 122, 123, 138, 139, 140, 141, 142, 143, 144, 136, 137] (by decide +kernel) (by decide +kernel)
set_option maxRecDepth 20000 in
theorem gX6_rules_X0_read : GoodIn wsX6_rules (wsV RX6 70 RX0 yX0_read wsX0_read) := goodIn_app (goodIn_of _ (by decide +kernel)) ggX6_rules_X0_read
set_option maxRecDepth 20000 in
theorem ggX6_rules_X3_clear : GoodIn wsX6_rules wsX3_clear := goodIn_r _ [127, 8, 136, 137] (by decide +kernel) (by decide +kernel)
set_option maxRecDepth 20000 in
theorem gX6_rules_X3_clear : GoodIn wsX6_rules (wsV RX6 74 RX3 yX3_clear wsX3_clear) := goodIn_app (goodIn_of _ (by decide +kernel)) ggX6_rules_X3_clear
theorem dX6_rules_0 : decode cX6_rules 0 = .ok (.iload_n 1, 1) := by decide +kernel
theorem dX6_rules_1 : decode cX6_rules 1 = .ok (.ifCond .lt 14, 3) := by decide +kernel
theorem dX6_rules_4 : decode cX6_rules 4 = .ok (.iload_n 1, 1) := by decide +kernel
theorem dX6_rules_5 : decode cX6_rules 5 = .ok (.aload_n 0, 1) := by decide +kernel
theorem dX6_rules_6 : decode cX6_rules 6 = .ok (.getfield 10, 3) := by decide +kernel
theorem dX6_rules_9 : decode cX6_rules 9 = .ok (.invokevirtual 66, 3) := by decide +kernel
theorem dX6_rules_12 : decode cX6_rules 12 = .ok (.if_icmp .le 6, 3) := by decide +kernel
theorem dX6_rules_15 : decode cX6_rules 15 = .ok (.bipush (-2), 2) := by decide +kernel
theorem dX6_rules_17 : decode cX6_rules 17 = .ok (.ireturn, 1) := by decide +kernel
theorem dX6_rules_18 : decode cX6_rules 18 = .ok (.aload_n 0, 1) := by decide +kernel
theorem dX6_rules_19 : decode cX6_rules 19 = .ok (.getfield 19, 3) := by decide +kernel
theorem dX6_rules_22 : decode cX6_rules 22 = .ok (.aload_n 0, 1) := by decide +kernel
theorem dX6_rules_23 : decode cX6_rules 23 = .ok (.getfield 10, 3) := by decide +kernel
theorem dX6_rules_26 : decode cX6_rules 26 = .ok (.iload_n 1, 1) := by decide +kernel
theorem dX6_rules_27 : decode cX6_rules 27 = .ok (.invokevirtual 70, 3) := by decide +kernel
theorem dX6_rules_30 : decode cX6_rules 30 = .ok (.istore_n 2, 1) := by decide +kernel
theorem dX6_rules_31 : decode cX6_rules 31 = .ok (.aload_n 0, 1) := by decide +kernel
theorem dX6_rules_32 : decode cX6_rules 32 = .ok (.getfield 10, 3) := by decide +kernel
theorem dX6_rules_35 : decode cX6_rules 35 = .ok (.invokevirtual 74, 3) := by decide +kernel
theorem dX6_rules_38 : decode cX6_rules 38 = .ok (.iload_n 2, 1) := by decide +kernel
theorem dX6_rules_39 : decode cX6_rules 39 = .ok (.ireturn, 1) := by decide +kernel
set_option maxRecDepth 20000 in
theorem ggX6_fault_X0_faultKind : GoodIn wsX6_fault wsX0_faultKind := goodIn_r _ [6, 7, 21, 22, 23, 24, 25, 26, 27] (by decide +kernel) (by decide +kernel)
set_option maxRecDepth 20000 in
theorem gX6_fault_X0_faultKind : GoodIn wsX6_fault (wsV RX6 77 RX0 yX0_faultKind wsX0_faultKind) := goodIn_app (goodIn_of _ (by decide +kernel)) ggX6_fault_X0_faultKind
set_option maxRecDepth 20000 in
theorem ggX6_fault_X0_faultPlace : GoodIn wsX6_fault wsX0_faultPlace := goodIn_r _ [11, 12, 21, 22, 23, 24, 25, 26, 27] (by decide +kernel) (by decide +kernel)
set_option maxRecDepth 20000 in
theorem gX6_fault_X0_faultPlace : GoodIn wsX6_fault (wsV RX6 80 RX0 yX0_faultPlace wsX0_faultPlace) := goodIn_app (goodIn_of _ (by decide +kernel)) ggX6_fault_X0_faultPlace
theorem dX6_fault_0 : decode cX6_fault 0 = .ok (.iload_n 1, 1) := by decide +kernel
theorem dX6_fault_1 : decode cX6_fault 1 = .ok (.ifCond .ne 11, 3) := by decide +kernel
theorem dX6_fault_4 : decode cX6_fault 4 = .ok (.aload_n 0, 1) := by decide +kernel
theorem dX6_fault_5 : decode cX6_fault 5 = .ok (.getfield 19, 3) := by decide +kernel
theorem dX6_fault_8 : decode cX6_fault 8 = .ok (.invokevirtual 77, 3) := by decide +kernel
theorem dX6_fault_11 : decode cX6_fault 11 = .ok (.ireturn, 1) := by decide +kernel
theorem dX6_fault_12 : decode cX6_fault 12 = .ok (.iload_n 1, 1) := by decide +kernel
theorem dX6_fault_13 : decode cX6_fault 13 = .ok (.iconst 1, 1) := by decide +kernel
theorem dX6_fault_14 : decode cX6_fault 14 = .ok (.if_icmp .ne 13, 3) := by decide +kernel
theorem dX6_fault_17 : decode cX6_fault 17 = .ok (.aload_n 0, 1) := by decide +kernel
theorem dX6_fault_18 : decode cX6_fault 18 = .ok (.getfield 19, 3) := by decide +kernel
theorem dX6_fault_21 : decode cX6_fault 21 = .ok (.invokevirtual 80, 3) := by decide +kernel
theorem dX6_fault_24 : decode cX6_fault 24 = .ok (.goto 4, 3) := by decide +kernel
theorem dX6_fault_27 : decode cX6_fault 27 = .ok (.iconst (-1), 1) := by decide +kernel
theorem dX6_fault_28 : decode cX6_fault 28 = .ok (.ireturn, 1) := by decide +kernel
set_option maxRecDepth 20000 in
theorem ggX6_rock_X2_isPrior : GoodIn wsX6_rock wsX2_isPrior := goodIn_r _ [5] (by decide +kernel) (by decide +kernel)
set_option maxRecDepth 20000 in
theorem gX6_rock_X2_isPrior : GoodIn wsX6_rock (va_wsS RX6 83 yX2_isPrior wsX2_isPrior) := goodIn_app (goodIn_of _ (by decide +kernel)) ggX6_rock_X2_isPrior
set_option maxRecDepth 20000 in
theorem ggX6_rock_X2_append : GoodIn wsX6_rock wsX2_append := goodIn_r _ [9, 10, 11, 20, 21, 22, 23, 24, 25] (by decide +kernel) (by decide +kernel)
set_option maxRecDepth 20000 in
theorem gX6_rock_X2_append : GoodIn wsX6_rock (wsV RX6 87 RX2 yX2_append wsX2_append) := goodIn_app (goodIn_of _ (by decide +kernel)) ggX6_rock_X2_append
theorem dX6_rock_0 : decode cX6_rock 0 = .ok (.iload_n 1, 1) := by decide +kernel
theorem dX6_rock_1 : decode cX6_rock 1 = .ok (.invokestatic 83, 3) := by decide +kernel
theorem dX6_rock_4 : decode cX6_rock 4 = .ok (.ifCond .eq 17, 3) := by decide +kernel
theorem dX6_rock_7 : decode cX6_rock 7 = .ok (.iload_n 2, 1) := by decide +kernel
theorem dX6_rock_8 : decode cX6_rock 8 = .ok (.invokestatic 83, 3) := by decide +kernel
theorem dX6_rock_11 : decode cX6_rock 11 = .ok (.ifCond .eq 10, 3) := by decide +kernel
theorem dX6_rock_14 : decode cX6_rock 14 = .ok (.iload_n 3, 1) := by decide +kernel
theorem dX6_rock_15 : decode cX6_rock 15 = .ok (.invokestatic 83, 3) := by decide +kernel
theorem dX6_rock_18 : decode cX6_rock 18 = .ok (.ifCond .ne 5, 3) := by decide +kernel
theorem dX6_rock_21 : decode cX6_rock 21 = .ok (.iconst (-1), 1) := by decide +kernel
theorem dX6_rock_22 : decode cX6_rock 22 = .ok (.ireturn, 1) := by decide +kernel
theorem dX6_rock_23 : decode cX6_rock 23 = .ok (.aload_n 0, 1) := by decide +kernel
theorem dX6_rock_24 : decode cX6_rock 24 = .ok (.getfield 26, 3) := by decide +kernel
theorem dX6_rock_27 : decode cX6_rock 27 = .ok (.iload_n 1, 1) := by decide +kernel
theorem dX6_rock_28 : decode cX6_rock 28 = .ok (.iload_n 2, 1) := by decide +kernel
theorem dX6_rock_29 : decode cX6_rock 29 = .ok (.iload_n 3, 1) := by decide +kernel
theorem dX6_rock_30 : decode cX6_rock 30 = .ok (.invokevirtual 87, 3) := by decide +kernel
theorem dX6_rock_33 : decode cX6_rock 33 = .ok (.ireturn, 1) := by decide +kernel
set_option maxRecDepth 20000 in
theorem ggX6_chance_X2_isQuality : GoodIn wsX6_chance wsX2_isQuality := goodIn_r _ [5] (by decide +kernel) (by decide +kernel)
set_option maxRecDepth 20000 in
theorem gX6_chance_X2_isQuality : GoodIn wsX6_chance (va_wsS RX6 90 yX2_isQuality wsX2_isQuality) := goodIn_app (goodIn_of _ (by decide +kernel)) ggX6_chance_X2_isQuality
set_option maxRecDepth 20000 in
theorem ggX6_chance_X2_isDepth : GoodIn wsX6_chance wsX2_isDepth := goodIn_r _ [8] (by decide +kernel) (by decide +kernel)
set_option maxRecDepth 20000 in
theorem gX6_chance_X2_isDepth : GoodIn wsX6_chance (va_wsS RX6 93 yX2_isDepth wsX2_isDepth) := goodIn_app (goodIn_of _ (by decide +kernel)) ggX6_chance_X2_isDepth
set_option maxRecDepth 20000 in
theorem ggX6_chance_X2_setChance : GoodIn wsX6_chance wsX2_setChance := goodIn_r _ [12, 13, 22, 23, 24, 25, 26, 27] (by decide +kernel) (by decide +kernel)
set_option maxRecDepth 20000 in
theorem gX6_chance_X2_setChance : GoodIn wsX6_chance (wsV RX6 96 RX2 yX2_setChance wsX2_setChance) := goodIn_app (goodIn_of _ (by decide +kernel)) ggX6_chance_X2_setChance
theorem dX6_chance_0 : decode cX6_chance 0 = .ok (.iload_n 1, 1) := by decide +kernel
theorem dX6_chance_1 : decode cX6_chance 1 = .ok (.invokestatic 90, 3) := by decide +kernel
theorem dX6_chance_4 : decode cX6_chance 4 = .ok (.ifCond .eq 20, 3) := by decide +kernel
theorem dX6_chance_7 : decode cX6_chance 7 = .ok (.iload_n 2, 1) := by decide +kernel
theorem dX6_chance_8 : decode cX6_chance 8 = .ok (.invokestatic 93, 3) := by decide +kernel
theorem dX6_chance_11 : decode cX6_chance 11 = .ok (.ifCond .eq 13, 3) := by decide +kernel
theorem dX6_chance_14 : decode cX6_chance 14 = .ok (.iload_n 3, 1) := by decide +kernel
theorem dX6_chance_15 : decode cX6_chance 15 = .ok (.ifCond .lt 9, 3) := by decide +kernel
theorem dX6_chance_18 : decode cX6_chance 18 = .ok (.iload_n 3, 1) := by decide +kernel
theorem dX6_chance_19 : decode cX6_chance 19 = .ok (.bipush 15, 2) := by decide +kernel
theorem dX6_chance_21 : decode cX6_chance 21 = .ok (.if_icmp .le 5, 3) := by decide +kernel
theorem dX6_chance_24 : decode cX6_chance 24 = .ok (.iconst 0, 1) := by decide +kernel
theorem dX6_chance_25 : decode cX6_chance 25 = .ok (.ireturn, 1) := by decide +kernel
theorem dX6_chance_26 : decode cX6_chance 26 = .ok (.aload_n 0, 1) := by decide +kernel
theorem dX6_chance_27 : decode cX6_chance 27 = .ok (.getfield 26, 3) := by decide +kernel
theorem dX6_chance_30 : decode cX6_chance 30 = .ok (.iload_n 1, 1) := by decide +kernel
theorem dX6_chance_31 : decode cX6_chance 31 = .ok (.iload_n 2, 1) := by decide +kernel
theorem dX6_chance_32 : decode cX6_chance 32 = .ok (.iload_n 3, 1) := by decide +kernel
theorem dX6_chance_33 : decode cX6_chance 33 = .ok (.invokevirtual 96, 3) := by decide +kernel
theorem dX6_chance_36 : decode cX6_chance 36 = .ok (.iconst 1, 1) := by decide +kernel
theorem dX6_chance_37 : decode cX6_chance 37 = .ok (.ireturn, 1) := by decide +kernel
set_option maxRecDepth 20000 in
theorem ggX6_village_X2_has : GoodIn wsX6_village wsX2_has := goodIn_r _ [7, 8, 29, 30, 31, 32, 33, 34] (by decide +kernel) (by decide +kernel)
set_option maxRecDepth 20000 in
theorem gX6_village_X2_has : GoodIn wsX6_village (wsV RX6 100 RX2 yX2_has wsX2_has) := goodIn_app (goodIn_of _ (by decide +kernel)) ggX6_village_X2_has
set_option maxRecDepth 20000 in
theorem ggX6_village_X4_append : GoodIn wsX6_village wsX4_append := goodIn_r _ [13, 14, 15, 16, 17, 18, 19, 20, 35, 36, 37, 38, 39, 40, 41] (by decide +kernel) (by decide +kernel)
set_option maxRecDepth 20000 in
theorem gX6_village_X4_append : GoodIn wsX6_village (wsV RX6 103 RX4 yX4_append wsX4_append) := goodIn_app (goodIn_of _ (by decide +kernel)) ggX6_village_X4_append
theorem dX6_village_0 : decode cX6_village 0 = .ok (.aload_n 0, 1) := by decide +kernel
theorem dX6_village_1 : decode cX6_village 1 = .ok (.getfield 26, 3) := by decide +kernel
theorem dX6_village_4 : decode cX6_village 4 = .ok (.iload_n 1, 1) := by decide +kernel
theorem dX6_village_5 : decode cX6_village 5 = .ok (.invokevirtual 100, 3) := by decide +kernel
theorem dX6_village_8 : decode cX6_village 8 = .ok (.ifCond .eq 15, 3) := by decide +kernel
theorem dX6_village_11 : decode cX6_village 11 = .ok (.iload_n 2, 1) := by decide +kernel
theorem dX6_village_12 : decode cX6_village 12 = .ok (.iconst 1, 1) := by decide +kernel
theorem dX6_village_13 : decode cX6_village 13 = .ok (.if_icmp .lt 10, 3) := by decide +kernel
theorem dX6_village_16 : decode cX6_village 16 = .ok (.iload_n 2, 1) := by decide +kernel
theorem dX6_village_17 : decode cX6_village 17 = .ok (.sipush 9999, 3) := by decide +kernel
theorem dX6_village_20 : decode cX6_village 20 = .ok (.if_icmp .le 5, 3) := by decide +kernel
theorem dX6_village_23 : decode cX6_village 23 = .ok (.iconst (-1), 1) := by decide +kernel
theorem dX6_village_24 : decode cX6_village 24 = .ok (.ireturn, 1) := by decide +kernel
theorem dX6_village_25 : decode cX6_village 25 = .ok (.aload_n 0, 1) := by decide +kernel
theorem dX6_village_26 : decode cX6_village 26 = .ok (.getfield 33, 3) := by decide +kernel
theorem dX6_village_29 : decode cX6_village 29 = .ok (.iload_n 1, 1) := by decide +kernel
theorem dX6_village_30 : decode cX6_village 30 = .ok (.iload_n 2, 1) := by decide +kernel
theorem dX6_village_31 : decode cX6_village 31 = .ok (.invokevirtual 103, 3) := by decide +kernel
theorem dX6_village_34 : decode cX6_village 34 = .ok (.ireturn, 1) := by decide +kernel
set_option maxRecDepth 20000 in
theorem ggX6_way_X6_isPlace : GoodIn wsX6_way wsX6_isPlace := goodIn_r _ [6, 7, 8, 9, 10, 11, 12, 13, 20, 21, 22, 23, 24, 25, 26, 27, 28, 29, 30, 31, 32, 33, 34] (by decide +kernel) (by decide +kernel)
set_option maxRecDepth 20000 in
theorem gX6_way_X6_isPlace : GoodIn wsX6_way (wsV RX6 106 RX6 yX6_isPlace wsX6_isPlace) := goodIn_app (goodIn_of _ (by decide +kernel)) ggX6_way_X6_isPlace
set_option maxRecDepth 20000 in
theorem ggX6_way_X5_set : GoodIn wsX6_way wsX5_set := goodIn_r _ [18, 19, 35] (by decide +kernel) (by decide +kernel)
set_option maxRecDepth 20000 in
theorem gX6_way_X5_set : GoodIn wsX6_way (wsV RX6 109 RX5 yX5_set wsX5_set) := goodIn_app (goodIn_of _ (by decide +kernel)) ggX6_way_X5_set
theorem dX6_way_0 : decode cX6_way 0 = .ok (.aload_n 0, 1) := by decide +kernel
theorem dX6_way_1 : decode cX6_way 1 = .ok (.iload_n 1, 1) := by decide +kernel
theorem dX6_way_2 : decode cX6_way 2 = .ok (.invokevirtual 106, 3) := by decide +kernel
theorem dX6_way_5 : decode cX6_way 5 = .ok (.ifCond .eq 16, 3) := by decide +kernel
theorem dX6_way_8 : decode cX6_way 8 = .ok (.aload_n 0, 1) := by decide +kernel
theorem dX6_way_9 : decode cX6_way 9 = .ok (.iload_n 2, 1) := by decide +kernel
theorem dX6_way_10 : decode cX6_way 10 = .ok (.invokevirtual 106, 3) := by decide +kernel
theorem dX6_way_13 : decode cX6_way 13 = .ok (.ifCond .eq 8, 3) := by decide +kernel
theorem dX6_way_16 : decode cX6_way 16 = .ok (.iload_n 1, 1) := by decide +kernel
theorem dX6_way_17 : decode cX6_way 17 = .ok (.iload_n 2, 1) := by decide +kernel
theorem dX6_way_18 : decode cX6_way 18 = .ok (.if_icmp .ne 5, 3) := by decide +kernel
theorem dX6_way_21 : decode cX6_way 21 = .ok (.iconst 0, 1) := by decide +kernel
theorem dX6_way_22 : decode cX6_way 22 = .ok (.ireturn, 1) := by decide +kernel
theorem dX6_way_23 : decode cX6_way 23 = .ok (.iload_n 3, 1) := by decide +kernel
theorem dX6_way_24 : decode cX6_way 24 = .ok (.iconst (-1), 1) := by decide +kernel
theorem dX6_way_25 : decode cX6_way 25 = .ok (.if_icmp .eq 16, 3) := by decide +kernel
theorem dX6_way_28 : decode cX6_way 28 = .ok (.iload_n 3, 1) := by decide +kernel
theorem dX6_way_29 : decode cX6_way 29 = .ok (.iconst 1, 1) := by decide +kernel
theorem dX6_way_30 : decode cX6_way 30 = .ok (.if_icmp .lt 9, 3) := by decide +kernel
theorem dX6_way_33 : decode cX6_way 33 = .ok (.iload_n 3, 1) := by decide +kernel
theorem dX6_way_34 : decode cX6_way 34 = .ok (.bipush 9, 2) := by decide +kernel
theorem dX6_way_36 : decode cX6_way 36 = .ok (.if_icmp .le 5, 3) := by decide +kernel
theorem dX6_way_39 : decode cX6_way 39 = .ok (.iconst 0, 1) := by decide +kernel
theorem dX6_way_40 : decode cX6_way 40 = .ok (.ireturn, 1) := by decide +kernel
theorem dX6_way_41 : decode cX6_way 41 = .ok (.aload_n 0, 1) := by decide +kernel
theorem dX6_way_42 : decode cX6_way 42 = .ok (.getfield 40, 3) := by decide +kernel
theorem dX6_way_45 : decode cX6_way 45 = .ok (.iload_n 1, 1) := by decide +kernel
theorem dX6_way_46 : decode cX6_way 46 = .ok (.iload_n 2, 1) := by decide +kernel
theorem dX6_way_47 : decode cX6_way 47 = .ok (.iload_n 3, 1) := by decide +kernel
theorem dX6_way_48 : decode cX6_way 48 = .ok (.invokevirtual 109, 3) := by decide +kernel
theorem dX6_way_51 : decode cX6_way 51 = .ok (.iconst 1, 1) := by decide +kernel
theorem dX6_way_52 : decode cX6_way 52 = .ok (.ireturn, 1) := by decide +kernel
set_option maxRecDepth 20000 in
theorem ggX6_go_X6_isPlace : GoodIn wsX6_go wsX6_isPlace := goodIn_r _ [8, 9, 10, 11, 12, 13, 14, 15, 26, 27, 28, 29, 30, 31, 32, 33, 34, 35, 36, 37, 38, 39, 40] (by decide +kernel) (by decide +kernel)
set_option maxRecDepth 20000 in
theorem gX6_go_X6_isPlace : GoodIn wsX6_go (wsV RX6 106 RX6 yX6_isPlace wsX6_isPlace) := goodIn_app (goodIn_of _ (by decide +kernel)) ggX6_go_X6_isPlace
set_option maxRecDepth 20000 in
theorem ggX6_go_X5_joins : GoodIn wsX6_go wsX5_joins := goodIn_r _ [20, 21, 41] (by decide +kernel) (by decide +kernel)
set_option maxRecDepth 20000 in
theorem gX6_go_X5_joins : GoodIn wsX6_go (wsV RX6 112 RX5 yX5_joins wsX5_joins) := goodIn_app (goodIn_of _ (by decide +kernel)) ggX6_go_X5_joins
set_option maxRecDepth 20000 in
theorem ggX6_go_X5_days : GoodIn wsX6_go wsX5_days := goodIn_r _ [25, 21, 41] (by decide +kernel) (by decide +kernel)
set_option maxRecDepth 20000 in
theorem gX6_go_X5_days : GoodIn wsX6_go (wsV RX6 116 RX5 yX5_days wsX5_days) := goodIn_app (goodIn_of _ (by decide +kernel)) ggX6_go_X5_days
theorem dX6_go_0 : decode cX6_go 0 = .ok (.aload_n 0, 1) := by decide +kernel
theorem dX6_go_1 : decode cX6_go 1 = .ok (.iload_n 1, 1) := by decide +kernel
theorem dX6_go_2 : decode cX6_go 2 = .ok (.invokevirtual 106, 3) := by decide +kernel
theorem dX6_go_5 : decode cX6_go 5 = .ok (.ifCond .eq 26, 3) := by decide +kernel
theorem dX6_go_8 : decode cX6_go 8 = .ok (.iload_n 1, 1) := by decide +kernel
theorem dX6_go_9 : decode cX6_go 9 = .ok (.aload_n 0, 1) := by decide +kernel
theorem dX6_go_10 : decode cX6_go 10 = .ok (.getfield 51, 3) := by decide +kernel
theorem dX6_go_13 : decode cX6_go 13 = .ok (.if_icmp .eq 18, 3) := by decide +kernel
theorem dX6_go_16 : decode cX6_go 16 = .ok (.aload_n 0, 1) := by decide +kernel
theorem dX6_go_17 : decode cX6_go 17 = .ok (.getfield 40, 3) := by decide +kernel
theorem dX6_go_20 : decode cX6_go 20 = .ok (.aload_n 0, 1) := by decide +kernel
theorem dX6_go_21 : decode cX6_go 21 = .ok (.getfield 51, 3) := by decide +kernel
theorem dX6_go_24 : decode cX6_go 24 = .ok (.iload_n 1, 1) := by decide +kernel
theorem dX6_go_25 : decode cX6_go 25 = .ok (.invokevirtual 112, 3) := by decide +kernel
theorem dX6_go_28 : decode cX6_go 28 = .ok (.ifCond .ne 5, 3) := by decide +kernel
theorem dX6_go_31 : decode cX6_go 31 = .ok (.iconst (-1), 1) := by decide +kernel
theorem dX6_go_32 : decode cX6_go 32 = .ok (.ireturn, 1) := by decide +kernel
theorem dX6_go_33 : decode cX6_go 33 = .ok (.aload_n 0, 1) := by decide +kernel
theorem dX6_go_34 : decode cX6_go 34 = .ok (.getfield 55, 3) := by decide +kernel
theorem dX6_go_37 : decode cX6_go 37 = .ok (.aload_n 0, 1) := by decide +kernel
theorem dX6_go_38 : decode cX6_go 38 = .ok (.getfield 40, 3) := by decide +kernel
theorem dX6_go_41 : decode cX6_go 41 = .ok (.aload_n 0, 1) := by decide +kernel
theorem dX6_go_42 : decode cX6_go 42 = .ok (.getfield 51, 3) := by decide +kernel
theorem dX6_go_45 : decode cX6_go 45 = .ok (.iload_n 1, 1) := by decide +kernel
theorem dX6_go_46 : decode cX6_go 46 = .ok (.invokevirtual 116, 3) := by decide +kernel
theorem dX6_go_49 : decode cX6_go 49 = .ok (.iadd, 1) := by decide +kernel
theorem dX6_go_50 : decode cX6_go 50 = .ok (.istore_n 2, 1) := by decide +kernel
theorem dX6_go_51 : decode cX6_go 51 = .ok (.iload_n 2, 1) := by decide +kernel
theorem dX6_go_52 : decode cX6_go 52 = .ok (.sipush 9999, 3) := by decide +kernel
theorem dX6_go_55 : decode cX6_go 55 = .ok (.if_icmp .le 5, 3) := by decide +kernel
theorem dX6_go_58 : decode cX6_go 58 = .ok (.iconst (-1), 1) := by decide +kernel
theorem dX6_go_59 : decode cX6_go 59 = .ok (.ireturn, 1) := by decide +kernel
theorem dX6_go_60 : decode cX6_go 60 = .ok (.aload_n 0, 1) := by decide +kernel
theorem dX6_go_61 : decode cX6_go 61 = .ok (.iload_n 1, 1) := by decide +kernel
theorem dX6_go_62 : decode cX6_go 62 = .ok (.putfield 51, 3) := by decide +kernel
theorem dX6_go_65 : decode cX6_go 65 = .ok (.aload_n 0, 1) := by decide +kernel
theorem dX6_go_66 : decode cX6_go 66 = .ok (.iload_n 2, 1) := by decide +kernel
theorem dX6_go_67 : decode cX6_go 67 = .ok (.putfield 55, 3) := by decide +kernel
theorem dX6_go_70 : decode cX6_go 70 = .ok (.aload_n 0, 1) := by decide +kernel
theorem dX6_go_71 : decode cX6_go 71 = .ok (.getfield 55, 3) := by decide +kernel
theorem dX6_go_74 : decode cX6_go 74 = .ok (.ireturn, 1) := by decide +kernel
set_option maxRecDepth 20000 in
theorem ggX6_drill_X4_has : GoodIn wsX6_drill wsX4_has := goodIn_r _ [10, 11, 64, 65, 66, 67, 68, 69, 70] (by decide +kernel) (by decide +kernel)
set_option maxRecDepth 20000 in
theorem gX6_drill_X4_has : GoodIn wsX6_drill (wsV RX6 119 RX4 yX4_has wsX4_has) := goodIn_app (goodIn_of _ (by decide +kernel)) ggX6_drill_X4_has
set_option maxRecDepth 20000 in
theorem ggX6_drill_X4_hasWell : GoodIn wsX6_drill wsX4_hasWell := goodIn_r _ [15, 16, 64, 65, 66, 67, 68, 69, 70] (by decide +kernel) (by decide +kernel)
set_option maxRecDepth 20000 in
theorem gX6_drill_X4_hasWell : GoodIn wsX6_drill (wsV RX6 120 RX4 yX4_hasWell wsX4_hasWell) := goodIn_app (goodIn_of _ (by decide +kernel)) ggX6_drill_X4_hasWell
set_option maxRecDepth 20000 in
theorem ggX6_drill_X2_isDepth : GoodIn wsX6_drill wsX2_isDepth := goodIn_r _ [20] (by decide +kernel) (by decide +kernel)
set_option maxRecDepth 20000 in
theorem gX6_drill_X2_isDepth : GoodIn wsX6_drill (va_wsS RX6 93 yX2_isDepth wsX2_isDepth) := goodIn_app (goodIn_of _ (by decide +kernel)) ggX6_drill_X2_isDepth
set_option maxRecDepth 20000 in
theorem ggX6_drill_X4_rockOf : GoodIn wsX6_drill wsX4_rockOf := goodIn_r _ [24, 25, 64, 65, 66, 67, 68, 69, 70] (by decide +kernel) (by decide +kernel)
set_option maxRecDepth 20000 in
theorem gX6_drill_X4_rockOf : GoodIn wsX6_drill (wsV RX6 123 RX4 yX4_rockOf wsX4_rockOf) := goodIn_app (goodIn_of _ (by decide +kernel)) ggX6_drill_X4_rockOf
set_option maxRecDepth 20000 in
theorem ggX6_drill_X0_rest : GoodIn wsX6_drill wsX0_rest := goodIn_r _ [30, 31, 71, 72, 73, 74, 75, 76, 77] (by decide +kernel) (by decide +kernel)
set_option maxRecDepth 20000 in
theorem gX6_drill_X0_rest : GoodIn wsX6_drill (wsV RX6 127 RX0 yX0_rest wsX0_rest) := goodIn_app (goodIn_of _ (by decide +kernel)) ggX6_drill_X0_rest
set_option maxRecDepth 20000 in
theorem ggX6_drill_X2_hasRoom : GoodIn wsX6_drill wsX2_hasRoom := goodIn_r _ [35, 36, 78, 79, 80, 81, 82, 83] (by decide +kernel) (by decide +kernel)
set_option maxRecDepth 20000 in
theorem gX6_drill_X2_hasRoom : GoodIn wsX6_drill (wsV RX6 130 RX2 yX2_hasRoom wsX2_hasRoom) := goodIn_app (goodIn_of _ (by decide +kernel)) ggX6_drill_X2_hasRoom
set_option maxRecDepth 20000 in
theorem ggX6_drill_X2_addHole : GoodIn wsX6_drill wsX2_addHole := goodIn_r _ [40, 41, 42, 36, 78, 79, 80, 81, 82, 83] (by decide +kernel) (by decide +kernel)
set_option maxRecDepth 20000 in
theorem gX6_drill_X2_addHole : GoodIn wsX6_drill (wsV RX6 132 RX2 yX2_addHole wsX2_addHole) := goodIn_app (goodIn_of _ (by decide +kernel)) ggX6_drill_X2_addHole
set_option maxRecDepth 20000 in
theorem ggX6_drill_X0_salt : GoodIn wsX6_drill wsX0_salt := goodIn_r _ [46, 31, 71, 72, 73, 74, 75, 76, 77] (by decide +kernel) (by decide +kernel)
set_option maxRecDepth 20000 in
theorem gX6_drill_X0_salt : GoodIn wsX6_drill (wsV RX6 136 RX0 yX0_salt wsX0_salt) := goodIn_app (goodIn_of _ (by decide +kernel)) ggX6_drill_X0_salt
set_option maxRecDepth 20000 in
theorem ggX6_drill_X4_makeWell : GoodIn wsX6_drill wsX4_makeWell := goodIn_r _ [50, 16, 64, 65, 66, 67, 68, 69, 70] (by decide +kernel) (by decide +kernel)
set_option maxRecDepth 20000 in
theorem gX6_drill_X4_makeWell : GoodIn wsX6_drill (wsV RX6 139 RX4 yX4_makeWell wsX4_makeWell) := goodIn_app (goodIn_of _ (by decide +kernel)) ggX6_drill_X4_makeWell
set_option maxRecDepth 20000 in
theorem ggX6_drill_X4_addBadHole : GoodIn wsX6_drill wsX4_addBadHole := goodIn_r _ [54, 55, 64, 65, 66, 67, 68, 69, 70] (by decide +kernel) (by decide +kernel)
set_option maxRecDepth 20000 in
theorem gX6_drill_X4_addBadHole : GoodIn wsX6_drill (wsV RX6 143 RX4 yX4_addBadHole wsX4_addBadHole) := goodIn_app (goodIn_of _ (by decide +kernel)) ggX6_drill_X4_addBadHole
theorem dX6_drill_0 : decode cX6_drill 0 = .ok (.aload_n 0, 1) := by decide +kernel
theorem dX6_drill_1 : decode cX6_drill 1 = .ok (.getfield 33, 3) := by decide +kernel
theorem dX6_drill_4 : decode cX6_drill 4 = .ok (.aload_n 0, 1) := by decide +kernel
theorem dX6_drill_5 : decode cX6_drill 5 = .ok (.getfield 51, 3) := by decide +kernel
theorem dX6_drill_8 : decode cX6_drill 8 = .ok (.invokevirtual 119, 3) := by decide +kernel
theorem dX6_drill_11 : decode cX6_drill 11 = .ok (.ifCond .eq 24, 3) := by decide +kernel
theorem dX6_drill_14 : decode cX6_drill 14 = .ok (.aload_n 0, 1) := by decide +kernel
theorem dX6_drill_15 : decode cX6_drill 15 = .ok (.getfield 33, 3) := by decide +kernel
theorem dX6_drill_18 : decode cX6_drill 18 = .ok (.aload_n 0, 1) := by decide +kernel
theorem dX6_drill_19 : decode cX6_drill 19 = .ok (.getfield 51, 3) := by decide +kernel
theorem dX6_drill_22 : decode cX6_drill 22 = .ok (.invokevirtual 120, 3) := by decide +kernel
theorem dX6_drill_25 : decode cX6_drill 25 = .ok (.ifCond .ne 10, 3) := by decide +kernel
theorem dX6_drill_28 : decode cX6_drill 28 = .ok (.iload_n 1, 1) := by decide +kernel
theorem dX6_drill_29 : decode cX6_drill 29 = .ok (.invokestatic 93, 3) := by decide +kernel
theorem dX6_drill_32 : decode cX6_drill 32 = .ok (.ifCond .ne 5, 3) := by decide +kernel
theorem dX6_drill_35 : decode cX6_drill 35 = .ok (.iconst (-1), 1) := by decide +kernel
theorem dX6_drill_36 : decode cX6_drill 36 = .ok (.ireturn, 1) := by decide +kernel
theorem dX6_drill_37 : decode cX6_drill 37 = .ok (.iload_n 2, 1) := by decide +kernel
theorem dX6_drill_38 : decode cX6_drill 38 = .ok (.ifCond .eq 16, 3) := by decide +kernel
theorem dX6_drill_41 : decode cX6_drill 41 = .ok (.iload_n 3, 1) := by decide +kernel
theorem dX6_drill_42 : decode cX6_drill 42 = .ok (.ifCond .lt 10, 3) := by decide +kernel
theorem dX6_drill_45 : decode cX6_drill 45 = .ok (.iload_n 3, 1) := by decide +kernel
theorem dX6_drill_46 : decode cX6_drill 46 = .ok (.sipush 999, 3) := by decide +kernel
theorem dX6_drill_49 : decode cX6_drill 49 = .ok (.if_icmp .le 5, 3) := by decide +kernel
theorem dX6_drill_52 : decode cX6_drill 52 = .ok (.iconst (-1), 1) := by decide +kernel
theorem dX6_drill_53 : decode cX6_drill 53 = .ok (.ireturn, 1) := by decide +kernel
theorem dX6_drill_54 : decode cX6_drill 54 = .ok (.aload_n 0, 1) := by decide +kernel
theorem dX6_drill_55 : decode cX6_drill 55 = .ok (.getfield 33, 3) := by decide +kernel
theorem dX6_drill_58 : decode cX6_drill 58 = .ok (.aload_n 0, 1) := by decide +kernel
theorem dX6_drill_59 : decode cX6_drill 59 = .ok (.getfield 51, 3) := by decide +kernel
theorem dX6_drill_62 : decode cX6_drill 62 = .ok (.invokevirtual 123, 3) := by decide +kernel
theorem dX6_drill_65 : decode cX6_drill 65 = .ok (.istore 4, 2) := by decide +kernel
theorem dX6_drill_67 : decode cX6_drill 67 = .ok (.aload_n 0, 1) := by decide +kernel
theorem dX6_drill_68 : decode cX6_drill 68 = .ok (.getfield 55, 3) := by decide +kernel
theorem dX6_drill_71 : decode cX6_drill 71 = .ok (.iload_n 1, 1) := by decide +kernel
theorem dX6_drill_72 : decode cX6_drill 72 = .ok (.iadd, 1) := by decide +kernel
theorem dX6_drill_73 : decode cX6_drill 73 = .ok (.aload_n 0, 1) := by decide +kernel
theorem dX6_drill_74 : decode cX6_drill 74 = .ok (.getfield 19, 3) := by decide +kernel
theorem dX6_drill_77 : decode cX6_drill 77 = .ok (.invokevirtual 127, 3) := by decide +kernel
theorem dX6_drill_80 : decode cX6_drill 80 = .ok (.iadd, 1) := by decide +kernel
theorem dX6_drill_81 : decode cX6_drill 81 = .ok (.istore 5, 2) := by decide +kernel
theorem dX6_drill_83 : decode cX6_drill 83 = .ok (.aload_n 0, 1) := by decide +kernel
theorem dX6_drill_84 : decode cX6_drill 84 = .ok (.getfield 26, 3) := by decide +kernel
theorem dX6_drill_87 : decode cX6_drill 87 = .ok (.iload 4, 2) := by decide +kernel
theorem dX6_drill_89 : decode cX6_drill 89 = .ok (.iload_n 1, 1) := by decide +kernel
theorem dX6_drill_90 : decode cX6_drill 90 = .ok (.invokevirtual 130, 3) := by decide +kernel
theorem dX6_drill_93 : decode cX6_drill 93 = .ok (.ifCond .eq 11, 3) := by decide +kernel
theorem dX6_drill_96 : decode cX6_drill 96 = .ok (.iload 5, 2) := by decide +kernel
theorem dX6_drill_98 : decode cX6_drill 98 = .ok (.sipush 9999, 3) := by decide +kernel
theorem dX6_drill_101 : decode cX6_drill 101 = .ok (.if_icmp .le 5, 3) := by decide +kernel
theorem dX6_drill_104 : decode cX6_drill 104 = .ok (.iconst (-1), 1) := by decide +kernel
theorem dX6_drill_105 : decode cX6_drill 105 = .ok (.ireturn, 1) := by decide +kernel
theorem dX6_drill_106 : decode cX6_drill 106 = .ok (.aload_n 0, 1) := by decide +kernel
theorem dX6_drill_107 : decode cX6_drill 107 = .ok (.iload 5, 2) := by decide +kernel
theorem dX6_drill_109 : decode cX6_drill 109 = .ok (.putfield 55, 3) := by decide +kernel
theorem dX6_drill_112 : decode cX6_drill 112 = .ok (.aload_n 0, 1) := by decide +kernel
theorem dX6_drill_113 : decode cX6_drill 113 = .ok (.getfield 26, 3) := by decide +kernel
theorem dX6_drill_116 : decode cX6_drill 116 = .ok (.iload 4, 2) := by decide +kernel
theorem dX6_drill_118 : decode cX6_drill 118 = .ok (.iload_n 1, 1) := by decide +kernel
theorem dX6_drill_119 : decode cX6_drill 119 = .ok (.iload_n 2, 1) := by decide +kernel
theorem dX6_drill_120 : decode cX6_drill 120 = .ok (.invokevirtual 132, 3) := by decide +kernel
theorem dX6_drill_123 : decode cX6_drill 123 = .ok (.iload_n 2, 1) := by decide +kernel
theorem dX6_drill_124 : decode cX6_drill 124 = .ok (.ifCond .eq 28, 3) := by decide +kernel
theorem dX6_drill_127 : decode cX6_drill 127 = .ok (.iload_n 3, 1) := by decide +kernel
theorem dX6_drill_128 : decode cX6_drill 128 = .ok (.aload_n 0, 1) := by decide +kernel
theorem dX6_drill_129 : decode cX6_drill 129 = .ok (.getfield 19, 3) := by decide +kernel
theorem dX6_drill_132 : decode cX6_drill 132 = .ok (.invokevirtual 136, 3) := by decide +kernel
theorem dX6_drill_135 : decode cX6_drill 135 = .ok (.if_icmp .gt 17, 3) := by decide +kernel
theorem dX6_drill_138 : decode cX6_drill 138 = .ok (.aload_n 0, 1) := by decide +kernel
theorem dX6_drill_139 : decode cX6_drill 139 = .ok (.getfield 33, 3) := by decide +kernel
theorem dX6_drill_142 : decode cX6_drill 142 = .ok (.aload_n 0, 1) := by decide +kernel
theorem dX6_drill_143 : decode cX6_drill 143 = .ok (.getfield 51, 3) := by decide +kernel
theorem dX6_drill_146 : decode cX6_drill 146 = .ok (.iload_n 1, 1) := by decide +kernel
theorem dX6_drill_147 : decode cX6_drill 147 = .ok (.invokevirtual 139, 3) := by decide +kernel
theorem dX6_drill_150 : decode cX6_drill 150 = .ok (.iconst 1, 1) := by decide +kernel
theorem dX6_drill_151 : decode cX6_drill 151 = .ok (.ireturn, 1) := by decide +kernel
theorem dX6_drill_152 : decode cX6_drill 152 = .ok (.aload_n 0, 1) := by decide +kernel
theorem dX6_drill_153 : decode cX6_drill 153 = .ok (.getfield 33, 3) := by decide +kernel
theorem dX6_drill_156 : decode cX6_drill 156 = .ok (.aload_n 0, 1) := by decide +kernel
theorem dX6_drill_157 : decode cX6_drill 157 = .ok (.getfield 51, 3) := by decide +kernel
theorem dX6_drill_160 : decode cX6_drill 160 = .ok (.invokevirtual 143, 3) := by decide +kernel
theorem dX6_drill_163 : decode cX6_drill 163 = .ok (.iload_n 2, 1) := by decide +kernel
theorem dX6_drill_164 : decode cX6_drill 164 = .ok (.ifCond .eq 7, 3) := by decide +kernel
theorem dX6_drill_167 : decode cX6_drill 167 = .ok (.iconst 2, 1) := by decide +kernel
theorem dX6_drill_168 : decode cX6_drill 168 = .ok (.goto 4, 3) := by decide +kernel
theorem dX6_drill_171 : decode cX6_drill 171 = .ok (.iconst 0, 1) := by decide +kernel
theorem dX6_drill_172 : decode cX6_drill 172 = .ok (.ireturn, 1) := by decide +kernel
set_option maxRecDepth 20000 in
theorem ggX6_likely_X2_has : GoodIn wsX6_likely wsX2_has := goodIn_r _ [7, 8, 40, 41, 42, 43, 44, 45] (by decide +kernel) (by decide +kernel)
set_option maxRecDepth 20000 in
theorem gX6_likely_X2_has : GoodIn wsX6_likely (wsV RX6 100 RX2 yX2_has wsX2_has) := goodIn_app (goodIn_of _ (by decide +kernel)) ggX6_likely_X2_has
set_option maxRecDepth 20000 in
theorem ggX6_likely_X2_isQuality : GoodIn wsX6_likely wsX2_isQuality := goodIn_r _ [11] (by decide +kernel) (by decide +kernel)
set_option maxRecDepth 20000 in
theorem gX6_likely_X2_isQuality : GoodIn wsX6_likely (va_wsS RX6 90 yX2_isQuality wsX2_isQuality) := goodIn_app (goodIn_of _ (by decide +kernel)) ggX6_likely_X2_isQuality
set_option maxRecDepth 20000 in
theorem ggX6_likely_X2_allWeights : GoodIn wsX6_likely wsX2_allWeights := goodIn_r _ [15, 16, 17, 18, 6, 19, 20, 21, 22, 23, 40, 41, 42, 43, 44, 45] (by decide +kernel) (by decide +kernel)
set_option maxRecDepth 20000 in
theorem gX6_likely_X2_allWeights : GoodIn wsX6_likely (wsV RX6 148 RX2 yX2_allWeights wsX2_allWeights) := goodIn_app (goodIn_of _ (by decide +kernel)) ggX6_likely_X2_allWeights
set_option maxRecDepth 20000 in
theorem ggX6_likely_X2_weight : GoodIn wsX6_likely wsX2_weight := goodIn_r _ [19, 20, 21, 22, 23, 40, 41, 42, 43, 44, 45] (by decide +kernel) (by decide +kernel)
set_option maxRecDepth 20000 in
theorem gX6_likely_X2_weight : GoodIn wsX6_likely (wsV RX6 152 RX2 yX2_weight wsX2_weight) := goodIn_app (goodIn_of _ (by decide +kernel)) ggX6_likely_X2_weight
set_option maxRecDepth 20000 in
theorem ggX6_likely_X6_leastTerm : GoodIn wsX6_likely wsX6_leastTerm := goodIn_r _ [28, 2, 29, 30, 27, 31] (by decide +kernel) (by decide +kernel)
set_option maxRecDepth 20000 in
theorem gX6_likely_X6_leastTerm : GoodIn wsX6_likely (va_wsS RX6 156 yX6_leastTerm wsX6_leastTerm) := goodIn_app (goodIn_of _ (by decide +kernel)) ggX6_likely_X6_leastTerm
theorem dX6_likely_0 : decode cX6_likely 0 = .ok (.aload_n 0, 1) := by decide +kernel
theorem dX6_likely_1 : decode cX6_likely 1 = .ok (.getfield 26, 3) := by decide +kernel
theorem dX6_likely_4 : decode cX6_likely 4 = .ok (.iload_n 1, 1) := by decide +kernel
theorem dX6_likely_5 : decode cX6_likely 5 = .ok (.invokevirtual 100, 3) := by decide +kernel
theorem dX6_likely_8 : decode cX6_likely 8 = .ok (.ifCond .eq 19, 3) := by decide +kernel
theorem dX6_likely_11 : decode cX6_likely 11 = .ok (.iload_n 2, 1) := by decide +kernel
theorem dX6_likely_12 : decode cX6_likely 12 = .ok (.invokestatic 90, 3) := by decide +kernel
theorem dX6_likely_15 : decode cX6_likely 15 = .ok (.ifCond .eq 12, 3) := by decide +kernel
theorem dX6_likely_18 : decode cX6_likely 18 = .ok (.iload_n 3, 1) := by decide +kernel
theorem dX6_likely_19 : decode cX6_likely 19 = .ok (.ifCond .lt 8, 3) := by decide +kernel
theorem dX6_likely_22 : decode cX6_likely 22 = .ok (.iload_n 3, 1) := by decide +kernel
theorem dX6_likely_23 : decode cX6_likely 23 = .ok (.iconst 1, 1) := by decide +kernel
theorem dX6_likely_24 : decode cX6_likely 24 = .ok (.if_icmp .le 7, 3) := by decide +kernel
theorem dX6_likely_27 : decode cX6_likely 27 = .ok (.ldc2_w 146, 3) := by decide +kernel
theorem dX6_likely_30 : decode cX6_likely 30 = .ok (.lreturn, 1) := by decide +kernel
theorem dX6_likely_31 : decode cX6_likely 31 = .ok (.aload_n 0, 1) := by decide +kernel
theorem dX6_likely_32 : decode cX6_likely 32 = .ok (.getfield 26, 3) := by decide +kernel
theorem dX6_likely_35 : decode cX6_likely 35 = .ok (.iload_n 1, 1) := by decide +kernel
theorem dX6_likely_36 : decode cX6_likely 36 = .ok (.invokevirtual 148, 3) := by decide +kernel
theorem dX6_likely_39 : decode cX6_likely 39 = .ok (.lstore 4, 2) := by decide +kernel
theorem dX6_likely_41 : decode cX6_likely 41 = .ok (.lload 4, 2) := by decide +kernel
theorem dX6_likely_43 : decode cX6_likely 43 = .ok (.lconst 0, 1) := by decide +kernel
theorem dX6_likely_44 : decode cX6_likely 44 = .ok (.lcmp, 1) := by decide +kernel
theorem dX6_likely_45 : decode cX6_likely 45 = .ok (.ifCond .ne 7, 3) := by decide +kernel
theorem dX6_likely_48 : decode cX6_likely 48 = .ok (.ldc2_w 146, 3) := by decide +kernel
theorem dX6_likely_51 : decode cX6_likely 51 = .ok (.lreturn, 1) := by decide +kernel
theorem dX6_likely_52 : decode cX6_likely 52 = .ok (.aload_n 0, 1) := by decide +kernel
theorem dX6_likely_53 : decode cX6_likely 53 = .ok (.getfield 26, 3) := by decide +kernel
theorem dX6_likely_56 : decode cX6_likely 56 = .ok (.iload_n 1, 1) := by decide +kernel
theorem dX6_likely_57 : decode cX6_likely 57 = .ok (.iload_n 2, 1) := by decide +kernel
theorem dX6_likely_58 : decode cX6_likely 58 = .ok (.invokevirtual 152, 3) := by decide +kernel
theorem dX6_likely_61 : decode cX6_likely 61 = .ok (.lload 4, 2) := by decide +kernel
theorem dX6_likely_63 : decode cX6_likely 63 = .ok (.iload_n 3, 1) := by decide +kernel
theorem dX6_likely_64 : decode cX6_likely 64 = .ok (.invokestatic 156, 3) := by decide +kernel
theorem dX6_likely_67 : decode cX6_likely 67 = .ok (.lreturn, 1) := by decide +kernel
set_option maxRecDepth 20000 in
theorem ggX6_hope_X4_has : GoodIn wsX6_hope wsX4_has := goodIn_r _ [7, 8, 46, 47, 48, 49, 50, 51, 52] (by decide +kernel) (by decide +kernel)
set_option maxRecDepth 20000 in
theorem gX6_hope_X4_has : GoodIn wsX6_hope (wsV RX6 119 RX4 yX4_has wsX4_has) := goodIn_app (goodIn_of _ (by decide +kernel)) ggX6_hope_X4_has
set_option maxRecDepth 20000 in
theorem ggX6_hope_X2_isDepth : GoodIn wsX6_hope wsX2_isDepth := goodIn_r _ [12] (by decide +kernel) (by decide +kernel)
set_option maxRecDepth 20000 in
theorem gX6_hope_X2_isDepth : GoodIn wsX6_hope (va_wsS RX6 93 yX2_isDepth wsX2_isDepth) := goodIn_app (goodIn_of _ (by decide +kernel)) ggX6_hope_X2_isDepth
set_option maxRecDepth 20000 in
theorem ggX6_hope_X4_rockOf : GoodIn wsX6_hope wsX4_rockOf := goodIn_r _ [16, 17, 46, 47, 48, 49, 50, 51, 52] (by decide +kernel) (by decide +kernel)
set_option maxRecDepth 20000 in
theorem gX6_hope_X4_rockOf : GoodIn wsX6_hope (wsV RX6 123 RX4 yX4_rockOf wsX4_rockOf) := goodIn_app (goodIn_of _ (by decide +kernel)) ggX6_hope_X4_rockOf
set_option maxRecDepth 20000 in
theorem ggX6_hope_X2_hopeOn : GoodIn wsX6_hope wsX2_hopeOn := goodIn_r _ [21, 22, 23, 24, 11, 25, 26, 27, 28, 29, 30, 31, 32, 33, 34, 35, 36, 37, 53, 54, 55, 56, 57, 58] (by decide +kernel) (by decide +kernel)
set_option maxRecDepth 20000 in
theorem gX6_hope_X2_hopeOn : GoodIn wsX6_hope (wsV RX6 160 RX2 yX2_hopeOn wsX2_hopeOn) := goodIn_app (goodIn_of _ (by decide +kernel)) ggX6_hope_X2_hopeOn
theorem dX6_hope_0 : decode cX6_hope 0 = .ok (.aload_n 0, 1) := by decide +kernel
theorem dX6_hope_1 : decode cX6_hope 1 = .ok (.getfield 33, 3) := by decide +kernel
theorem dX6_hope_4 : decode cX6_hope 4 = .ok (.iload_n 1, 1) := by decide +kernel
theorem dX6_hope_5 : decode cX6_hope 5 = .ok (.invokevirtual 119, 3) := by decide +kernel
theorem dX6_hope_8 : decode cX6_hope 8 = .ok (.ifCond .eq 10, 3) := by decide +kernel
theorem dX6_hope_11 : decode cX6_hope 11 = .ok (.iload_n 2, 1) := by decide +kernel
theorem dX6_hope_12 : decode cX6_hope 12 = .ok (.invokestatic 93, 3) := by decide +kernel
theorem dX6_hope_15 : decode cX6_hope 15 = .ok (.ifCond .ne 5, 3) := by decide +kernel
theorem dX6_hope_18 : decode cX6_hope 18 = .ok (.iconst (-1), 1) := by decide +kernel
theorem dX6_hope_19 : decode cX6_hope 19 = .ok (.ireturn, 1) := by decide +kernel
theorem dX6_hope_20 : decode cX6_hope 20 = .ok (.aload_n 0, 1) := by decide +kernel
theorem dX6_hope_21 : decode cX6_hope 21 = .ok (.getfield 26, 3) := by decide +kernel
theorem dX6_hope_24 : decode cX6_hope 24 = .ok (.aload_n 0, 1) := by decide +kernel
theorem dX6_hope_25 : decode cX6_hope 25 = .ok (.getfield 33, 3) := by decide +kernel
theorem dX6_hope_28 : decode cX6_hope 28 = .ok (.iload_n 1, 1) := by decide +kernel
theorem dX6_hope_29 : decode cX6_hope 29 = .ok (.invokevirtual 123, 3) := by decide +kernel
theorem dX6_hope_32 : decode cX6_hope 32 = .ok (.iload_n 2, 1) := by decide +kernel
theorem dX6_hope_33 : decode cX6_hope 33 = .ok (.invokevirtual 160, 3) := by decide +kernel
theorem dX6_hope_36 : decode cX6_hope 36 = .ok (.ireturn, 1) := by decide +kernel
set_option maxRecDepth 20000 in
theorem ggX6_plan_X0_dry : GoodIn wsX6_plan wsX0_dry := goodIn_r _ [12, 13, 195, 196, 197, 198, 199, 200, 201] (by decide +kernel) (by decide +kernel)
set_option maxRecDepth 20000 in
theorem gX6_plan_X0_dry : GoodIn wsX6_plan (wsV RX6 163 RX0 yX0_dry wsX0_dry) := goodIn_app (goodIn_of _ (by decide +kernel)) ggX6_plan_X0_dry
set_option maxRecDepth 20000 in
theorem ggX6_plan_X1_admit : GoodIn wsX6_plan wsX1_admit := goodIn_r _ [18, 19, 20, 21, 22, 23, 24, 25, 26, 27, 28, 29, 30, 31, 32, 33, 34, 35, 36, 37, 38, 17, 39, 40, 41, 42, 43, 44, 45, 46, 47, 48, 49, 50, 51, 52, 53, 54, 55, 56, 57, 58, 59, 60, 61, 62, 63, 64, 65, 66, 67, 68, 69, 70, 202, 203, 204, 205, 206, 207, 208, 209, 210, 211, 212, 213, 214, 215, 216, 217, 218, 219, 220, 221, 222, 223, 224, 225, 226, 227, 228] (by decide +kernel) (by decide +kernel)
set_option maxRecDepth 20000 in
theorem gX6_plan_X1_admit : GoodIn wsX6_plan (wsV RX6 166 RX1 yX1_admit wsX1_admit) := goodIn_app (goodIn_of _ (by decide +kernel)) ggX6_plan_X1_admit
set_option maxRecDepth 20000 in
theorem ggX6_plan_X4_size : GoodIn wsX6_plan wsX4_size := goodIn_r _ [25, 26, 216, 217, 218, 219, 220, 221, 222] (by decide +kernel) (by decide +kernel)
set_option maxRecDepth 20000 in
theorem gX6_plan_X4_size : GoodIn wsX6_plan (wsV RX6 170 RX4 yX4_size wsX4_size) := goodIn_app (goodIn_of _ (by decide +kernel)) ggX6_plan_X4_size
set_option maxRecDepth 20000 in
theorem ggX6_plan_X1_measureWays : GoodIn wsX6_plan wsX1_measureWays := goodIn_r _ [75, 76, 77, 19, 78, 79, 17, 80, 81, 82, 83, 84, 85, 86, 87, 88, 89, 90, 91, 92, 93, 94, 95, 96, 97, 98, 99, 100, 101, 102, 103, 104, 105, 106, 37, 38, 39, 107, 108, 109, 110, 202, 203, 204, 205, 206, 207, 208, 209, 210, 211, 212, 213, 214, 215, 229] (by decide +kernel) (by decide +kernel)
set_option maxRecDepth 20000 in
theorem gX6_plan_X1_measureWays : GoodIn wsX6_plan (wsV RX6 173 RX1 yX1_measureWays wsX1_measureWays) := goodIn_app (goodIn_of _ (by decide +kernel)) ggX6_plan_X1_measureWays
set_option maxRecDepth 20000 in
theorem ggX6_plan_X1_weighDepths : GoodIn wsX6_plan wsX1_weighDepths := goodIn_r _ [114, 115, 116, 19, 91, 92, 93, 17, 94, 117, 118, 119, 120, 121, 122, 123, 37, 38, 39, 124, 125, 126, 127, 128, 129, 105, 130, 131, 132, 133, 134, 20, 202, 203, 204, 205, 206, 207, 208, 209, 210, 211, 212, 213, 214, 215] (by decide +kernel) (by decide +kernel)
set_option maxRecDepth 20000 in
theorem gX6_plan_X1_weighDepths : GoodIn wsX6_plan (wsV RX6 177 RX1 yX1_weighDepths wsX1_weighDepths) := goodIn_app (goodIn_of _ (by decide +kernel)) ggX6_plan_X1_weighDepths
set_option maxRecDepth 20000 in
theorem ggX6_plan_X0_rest : GoodIn wsX6_plan wsX0_rest := goodIn_r _ [138, 13, 195, 196, 197, 198, 199, 200, 201] (by decide +kernel) (by decide +kernel)
set_option maxRecDepth 20000 in
theorem gX6_plan_X0_rest : GoodIn wsX6_plan (wsV RX6 127 RX0 yX0_rest wsX0_rest) := goodIn_app (goodIn_of _ (by decide +kernel)) ggX6_plan_X0_rest
set_option maxRecDepth 20000 in
theorem ggX6_plan_X1_choose : GoodIn wsX6_plan wsX1_choose := goodIn_r _ [142, 143, 19, 77, 103, 104, 105, 106, 144, 145, 91, 92, 93, 17, 94, 146, 147, 148, 149, 150, 151, 152, 153, 154, 155, 156, 115, 116, 157, 158, 159, 160, 161, 162, 163, 164, 165, 166, 167, 168, 169, 37, 38, 39, 170, 171, 172, 173, 131, 132, 133, 134, 20, 174, 175, 176, 177, 178, 179, 180, 181, 182, 107, 108, 109, 110, 76, 121, 122, 123, 202, 203, 204, 205, 206, 207, 208, 209, 210, 211, 212, 213, 214, 215] (by decide +kernel) (by decide +kernel)
set_option maxRecDepth 20000 in
theorem gX6_plan_X1_choose : GoodIn wsX6_plan (wsV RX6 180 RX1 yX1_choose wsX1_choose) := goodIn_app (goodIn_of _ (by decide +kernel)) ggX6_plan_X1_choose
set_option maxRecDepth 20000 in
theorem ggX6_plan_X1_worth : GoodIn wsX6_plan wsX1_worth := goodIn_r _ [186, 157, 202, 203, 204, 205, 206, 207, 208, 209, 210, 211, 212, 213, 214, 215] (by decide +kernel) (by decide +kernel)
set_option maxRecDepth 20000 in
theorem gX6_plan_X1_worth : GoodIn wsX6_plan (wsV RX6 184 RX1 yX1_worth wsX1_worth) := goodIn_app (goodIn_of _ (by decide +kernel)) ggX6_plan_X1_worth
theorem dX6_plan_0 : decode cX6_plan 0 = .ok (.iload_n 1, 1) := by decide +kernel
theorem dX6_plan_1 : decode cX6_plan 1 = .ok (.ifCond .lt 19, 3) := by decide +kernel
theorem dX6_plan_4 : decode cX6_plan 4 = .ok (.iload_n 1, 1) := by decide +kernel
theorem dX6_plan_5 : decode cX6_plan 5 = .ok (.bipush 28, 2) := by decide +kernel
theorem dX6_plan_7 : decode cX6_plan 7 = .ok (.if_icmp .gt 13, 3) := by decide +kernel
theorem dX6_plan_10 : decode cX6_plan 10 = .ok (.iload_n 2, 1) := by decide +kernel
theorem dX6_plan_11 : decode cX6_plan 11 = .ok (.ifCond .lt 9, 3) := by decide +kernel
theorem dX6_plan_14 : decode cX6_plan 14 = .ok (.iload_n 2, 1) := by decide +kernel
theorem dX6_plan_15 : decode cX6_plan 15 = .ok (.bipush 99, 2) := by decide +kernel
theorem dX6_plan_17 : decode cX6_plan 17 = .ok (.if_icmp .le 7, 3) := by decide +kernel
theorem dX6_plan_20 : decode cX6_plan 20 = .ok (.ldc2_w 146, 3) := by decide +kernel
theorem dX6_plan_23 : decode cX6_plan 23 = .ok (.lreturn, 1) := by decide +kernel
theorem dX6_plan_24 : decode cX6_plan 24 = .ok (.aload_n 0, 1) := by decide +kernel
theorem dX6_plan_25 : decode cX6_plan 25 = .ok (.getfield 47, 3) := by decide +kernel
theorem dX6_plan_28 : decode cX6_plan 28 = .ok (.aload_n 0, 1) := by decide +kernel
theorem dX6_plan_29 : decode cX6_plan 29 = .ok (.getfield 33, 3) := by decide +kernel
theorem dX6_plan_32 : decode cX6_plan 32 = .ok (.aload_n 0, 1) := by decide +kernel
theorem dX6_plan_33 : decode cX6_plan 33 = .ok (.getfield 26, 3) := by decide +kernel
theorem dX6_plan_36 : decode cX6_plan 36 = .ok (.aload_n 0, 1) := by decide +kernel
theorem dX6_plan_37 : decode cX6_plan 37 = .ok (.getfield 19, 3) := by decide +kernel
theorem dX6_plan_40 : decode cX6_plan 40 = .ok (.invokevirtual 163, 3) := by decide +kernel
theorem dX6_plan_43 : decode cX6_plan 43 = .ok (.invokevirtual 166, 3) := by decide +kernel
theorem dX6_plan_46 : decode cX6_plan 46 = .ok (.aload_n 0, 1) := by decide +kernel
theorem dX6_plan_47 : decode cX6_plan 47 = .ok (.getfield 47, 3) := by decide +kernel
theorem dX6_plan_50 : decode cX6_plan 50 = .ok (.aload_n 0, 1) := by decide +kernel
theorem dX6_plan_51 : decode cX6_plan 51 = .ok (.getfield 40, 3) := by decide +kernel
theorem dX6_plan_54 : decode cX6_plan 54 = .ok (.aload_n 0, 1) := by decide +kernel
theorem dX6_plan_55 : decode cX6_plan 55 = .ok (.getfield 33, 3) := by decide +kernel
theorem dX6_plan_58 : decode cX6_plan 58 = .ok (.invokevirtual 170, 3) := by decide +kernel
theorem dX6_plan_61 : decode cX6_plan 61 = .ok (.invokevirtual 173, 3) := by decide +kernel
theorem dX6_plan_64 : decode cX6_plan 64 = .ok (.aload_n 0, 1) := by decide +kernel
theorem dX6_plan_65 : decode cX6_plan 65 = .ok (.getfield 47, 3) := by decide +kernel
theorem dX6_plan_68 : decode cX6_plan 68 = .ok (.iload_n 1, 1) := by decide +kernel
theorem dX6_plan_69 : decode cX6_plan 69 = .ok (.invokevirtual 177, 3) := by decide +kernel
theorem dX6_plan_72 : decode cX6_plan 72 = .ok (.aload_n 0, 1) := by decide +kernel
theorem dX6_plan_73 : decode cX6_plan 73 = .ok (.getfield 47, 3) := by decide +kernel
theorem dX6_plan_76 : decode cX6_plan 76 = .ok (.aload_n 0, 1) := by decide +kernel
theorem dX6_plan_77 : decode cX6_plan 77 = .ok (.getfield 51, 3) := by decide +kernel
theorem dX6_plan_80 : decode cX6_plan 80 = .ok (.iload_n 1, 1) := by decide +kernel
theorem dX6_plan_81 : decode cX6_plan 81 = .ok (.iload_n 2, 1) := by decide +kernel
theorem dX6_plan_82 : decode cX6_plan 82 = .ok (.aload_n 0, 1) := by decide +kernel
theorem dX6_plan_83 : decode cX6_plan 83 = .ok (.getfield 19, 3) := by decide +kernel
theorem dX6_plan_86 : decode cX6_plan 86 = .ok (.invokevirtual 127, 3) := by decide +kernel
theorem dX6_plan_89 : decode cX6_plan 89 = .ok (.invokevirtual 180, 3) := by decide +kernel
theorem dX6_plan_92 : decode cX6_plan 92 = .ok (.aload_n 0, 1) := by decide +kernel
theorem dX6_plan_93 : decode cX6_plan 93 = .ok (.getfield 47, 3) := by decide +kernel
theorem dX6_plan_96 : decode cX6_plan 96 = .ok (.invokevirtual 184, 3) := by decide +kernel
theorem dX6_plan_99 : decode cX6_plan 99 = .ok (.lreturn, 1) := by decide +kernel
set_option maxRecDepth 20000 in
theorem ggX6_planned_X1_tell : GoodIn wsX6_planned wsX1_tell := goodIn_r _ [6, 7, 8, 9, 10, 11, 12, 21, 22, 23, 24, 25, 26, 27, 28, 29, 30, 31, 32, 33, 34] (by decide +kernel) (by decide +kernel)
set_option maxRecDepth 20000 in
theorem gX6_planned_X1_tell : GoodIn wsX6_planned (wsV RX6 188 RX1 yX1_tell wsX1_tell) := goodIn_app (goodIn_of _ (by decide +kernel)) ggX6_planned_X1_tell
