theorem dX0_init_0 : decode cX0_init 0 = .ok (.aload_n 0, 1) := by decide +kernel
theorem dX0_init_1 : decode cX0_init 1 = .ok (.invokespecial 3, 3) := by decide +kernel
theorem dX0_init_4 : decode cX0_init 4 = .ok (.aload_n 0, 1) := by decide +kernel
theorem dX0_init_5 : decode cX0_init 5 = .ok (.iconst 3, 1) := by decide +kernel
theorem dX0_init_6 : decode cX0_init 6 = .ok (.newarray .int, 2) := by decide +kernel
theorem dX0_init_8 : decode cX0_init 8 = .ok (.dup, 1) := by decide +kernel
theorem dX0_init_9 : decode cX0_init 9 = .ok (.iconst 0, 1) := by decide +kernel
theorem dX0_init_10 : decode cX0_init 10 = .ok (.sipush 999, 3) := by decide +kernel
theorem dX0_init_13 : decode cX0_init 13 = .ok (.iastore, 1) := by decide +kernel
theorem dX0_init_14 : decode cX0_init 14 = .ok (.dup, 1) := by decide +kernel
theorem dX0_init_15 : decode cX0_init 15 = .ok (.iconst 1, 1) := by decide +kernel
theorem dX0_init_16 : decode cX0_init 16 = .ok (.bipush 9, 2) := by decide +kernel
theorem dX0_init_18 : decode cX0_init 18 = .ok (.iastore, 1) := by decide +kernel
theorem dX0_init_19 : decode cX0_init 19 = .ok (.dup, 1) := by decide +kernel
theorem dX0_init_20 : decode cX0_init 20 = .ok (.iconst 2, 1) := by decide +kernel
theorem dX0_init_21 : decode cX0_init 21 = .ok (.iconst 0, 1) := by decide +kernel
theorem dX0_init_22 : decode cX0_init 22 = .ok (.iastore, 1) := by decide +kernel
theorem dX0_init_23 : decode cX0_init 23 = .ok (.putfield 9, 3) := by decide +kernel
theorem dX0_init_26 : decode cX0_init 26 = .ok (.aload_n 0, 1) := by decide +kernel
theorem dX0_init_27 : decode cX0_init 27 = .ok (.iconst 3, 1) := by decide +kernel
theorem dX0_init_28 : decode cX0_init 28 = .ok (.newarray .int, 2) := by decide +kernel
theorem dX0_init_30 : decode cX0_init 30 = .ok (.putfield 15, 3) := by decide +kernel
theorem dX0_init_33 : decode cX0_init 33 = .ok (.aload_n 0, 1) := by decide +kernel
theorem dX0_init_34 : decode cX0_init 34 = .ok (.iconst 3, 1) := by decide +kernel
theorem dX0_init_35 : decode cX0_init 35 = .ok (.newarray .boolean, 2) := by decide +kernel
theorem dX0_init_37 : decode cX0_init 37 = .ok (.putfield 18, 3) := by decide +kernel
theorem dX0_init_40 : decode cX0_init 40 = .ok (.aload_n 0, 1) := by decide +kernel
theorem dX0_init_41 : decode cX0_init 41 = .ok (.iconst 0, 1) := by decide +kernel
theorem dX0_init_42 : decode cX0_init 42 = .ok (.putfield 22, 3) := by decide +kernel
theorem dX0_init_45 : decode cX0_init 45 = .ok (.aload_n 0, 1) := by decide +kernel
theorem dX0_init_46 : decode cX0_init 46 = .ok (.iconst (-1), 1) := by decide +kernel
theorem dX0_init_47 : decode cX0_init 47 = .ok (.putfield 26, 3) := by decide +kernel
theorem dX0_init_50 : decode cX0_init 50 = .ok (.aload_n 0, 1) := by decide +kernel
theorem dX0_init_51 : decode cX0_init 51 = .ok (.iconst 0, 1) := by decide +kernel
theorem dX0_init_52 : decode cX0_init 52 = .ok (.putfield 29, 3) := by decide +kernel
theorem dX0_init_55 : decode cX0_init 55 = .ok (.aload_n 0, 1) := by decide +kernel
theorem dX0_init_56 : decode cX0_init 56 = .ok (.iconst 0, 1) := by decide +kernel
theorem dX0_init_57 : decode cX0_init 57 = .ok (.putfield 32, 3) := by decide +kernel
theorem dX0_init_60 : decode cX0_init 60 = .ok (.return_, 1) := by decide +kernel
theorem dX0_salt_0 : decode cX0_salt 0 = .ok (.aload_n 0, 1) := by decide +kernel
theorem dX0_salt_1 : decode cX0_salt 1 = .ok (.getfield 9, 3) := by decide +kernel
theorem dX0_salt_4 : decode cX0_salt 4 = .ok (.iconst 0, 1) := by decide +kernel
theorem dX0_salt_5 : decode cX0_salt 5 = .ok (.iaload, 1) := by decide +kernel
theorem dX0_salt_6 : decode cX0_salt 6 = .ok (.ireturn, 1) := by decide +kernel
theorem dX0_dry_0 : decode cX0_dry 0 = .ok (.aload_n 0, 1) := by decide +kernel
theorem dX0_dry_1 : decode cX0_dry 1 = .ok (.getfield 9, 3) := by decide +kernel
theorem dX0_dry_4 : decode cX0_dry 4 = .ok (.iconst 1, 1) := by decide +kernel
theorem dX0_dry_5 : decode cX0_dry 5 = .ok (.iaload, 1) := by decide +kernel
theorem dX0_dry_6 : decode cX0_dry 6 = .ok (.ireturn, 1) := by decide +kernel
theorem dX0_rest_0 : decode cX0_rest 0 = .ok (.aload_n 0, 1) := by decide +kernel
theorem dX0_rest_1 : decode cX0_rest 1 = .ok (.getfield 9, 3) := by decide +kernel
theorem dX0_rest_4 : decode cX0_rest 4 = .ok (.iconst 2, 1) := by decide +kernel
theorem dX0_rest_5 : decode cX0_rest 5 = .ok (.iaload, 1) := by decide +kernel
theorem dX0_rest_6 : decode cX0_rest 6 = .ok (.ireturn, 1) := by decide +kernel
theorem dX0_faultKind_0 : decode cX0_faultKind 0 = .ok (.aload_n 0, 1) := by decide +kernel
theorem dX0_faultKind_1 : decode cX0_faultKind 1 = .ok (.getfield 22, 3) := by decide +kernel
theorem dX0_faultKind_4 : decode cX0_faultKind 4 = .ok (.ireturn, 1) := by decide +kernel
theorem dX0_faultPlace_0 : decode cX0_faultPlace 0 = .ok (.aload_n 0, 1) := by decide +kernel
theorem dX0_faultPlace_1 : decode cX0_faultPlace 1 = .ok (.getfield 26, 3) := by decide +kernel
theorem dX0_faultPlace_4 : decode cX0_faultPlace 4 = .ok (.ireturn, 1) := by decide +kernel
set_option maxRecDepth 20000 in
theorem ggX0_read_X0_begin : GoodIn wsX0_read wsX0_begin := goodIn_r _ [9, 1, 2, 10, 11, 4, 12, 13, 114, 115, 116, 117, 118, 119, 120] (by decide +kernel) (by decide +kernel)
set_option maxRecDepth 20000 in
theorem gX0_read_X0_begin : GoodIn wsX0_read (wsV RX0 35 RX0 yX0_begin wsX0_begin) := goodIn_app (goodIn_of _ (by decide +kernel)) ggX0_read_X0_begin
set_option maxRecDepth 20000 in
theorem ggX0_read_X0_skipBlanks : GoodIn wsX0_read wsX0_skipBlanks := goodIn_r _ [17, 1, 2, 18, 19, 20, 21, 22, 23, 24, 25, 26, 8, 27, 114, 115, 116, 117, 118, 119, 120, 121, 122] (by decide +kernel) (by decide +kernel)
set_option maxRecDepth 20000 in
theorem gX0_read_X0_skipBlanks : GoodIn wsX0_read (wsV RX0 39 RX0 yX0_skipBlanks wsX0_skipBlanks) := goodIn_app (goodIn_of _ (by decide +kernel)) ggX0_read_X0_skipBlanks
set_option maxRecDepth 20000 in
theorem ggX0_read_X0_readLine : GoodIn wsX0_read wsX0_readLine := goodIn_r _ [31, 1, 13, 32, 33, 34, 8, 35, 2, 18, 19, 20, 21, 22, 23, 24, 36, 37, 38, 39, 40, 41, 42, 43, 44, 45, 46, 47, 48, 49, 50, 51, 52, 53, 54, 55, 56, 57, 58, 59, 60, 61, 62, 63, 64, 65, 66, 67, 68, 69, 70, 71, 72, 73, 74, 75, 76, 77, 78, 79, 80, 81, 82, 83, 84, 85, 86, 87, 88, 89, 90, 91, 92, 93, 94, 95, 10, 11, 14, 15, 16, 17, 25, 26, 27, 96, 97, 98, 99, 100, 101, 102, 103, 104, 105, 106, 4, 107, 108, 109, 110, 111, 112, 113, 114, 115, 116, 117, 118, 119, 120, 121, 122] (by decide +kernel) (by decide +kernel)
set_option maxRecDepth 20000 in
theorem gX0_read_X0_readLine : GoodIn wsX0_read (wsV RX0 43 RX0 yX0_readLine wsX0_readLine) := goodIn_app (goodIn_of _ (by decide +kernel)) ggX0_read_X0_readLine
theorem dX0_read_0 : decode cX0_read 0 = .ok (.aload_n 0, 1) := by decide +kernel
theorem dX0_read_1 : decode cX0_read 1 = .ok (.iload_n 2, 1) := by decide +kernel
theorem dX0_read_2 : decode cX0_read 2 = .ok (.invokevirtual 35, 3) := by decide +kernel
theorem dX0_read_5 : decode cX0_read 5 = .ok (.iconst 0, 1) := by decide +kernel
theorem dX0_read_6 : decode cX0_read 6 = .ok (.istore_n 3, 1) := by decide +kernel
theorem dX0_read_7 : decode cX0_read 7 = .ok (.aload_n 0, 1) := by decide +kernel
theorem dX0_read_8 : decode cX0_read 8 = .ok (.aload_n 1, 1) := by decide +kernel
theorem dX0_read_9 : decode cX0_read 9 = .ok (.invokevirtual 39, 3) := by decide +kernel
theorem dX0_read_12 : decode cX0_read 12 = .ok (.aload_n 0, 1) := by decide +kernel
theorem dX0_read_13 : decode cX0_read 13 = .ok (.getfield 29, 3) := by decide +kernel
theorem dX0_read_16 : decode cX0_read 16 = .ok (.aload_n 0, 1) := by decide +kernel
theorem dX0_read_17 : decode cX0_read 17 = .ok (.getfield 32, 3) := by decide +kernel
theorem dX0_read_20 : decode cX0_read 20 = .ok (.if_icmp .ge 29, 3) := by decide +kernel
theorem dX0_read_23 : decode cX0_read 23 = .ok (.iload_n 3, 1) := by decide +kernel
theorem dX0_read_24 : decode cX0_read 24 = .ok (.iconst 3, 1) := by decide +kernel
theorem dX0_read_25 : decode cX0_read 25 = .ok (.if_icmp .gt 24, 3) := by decide +kernel
theorem dX0_read_28 : decode cX0_read 28 = .ok (.aload_n 0, 1) := by decide +kernel
theorem dX0_read_29 : decode cX0_read 29 = .ok (.aload_n 1, 1) := by decide +kernel
theorem dX0_read_30 : decode cX0_read 30 = .ok (.invokevirtual 43, 3) := by decide +kernel
theorem dX0_read_33 : decode cX0_read 33 = .ok (.ifCond .ne 5, 3) := by decide +kernel
theorem dX0_read_36 : decode cX0_read 36 = .ok (.iconst (-1), 1) := by decide +kernel
theorem dX0_read_37 : decode cX0_read 37 = .ok (.ireturn, 1) := by decide +kernel
theorem dX0_read_38 : decode cX0_read 38 = .ok (.iinc 3 1, 3) := by decide +kernel
theorem dX0_read_41 : decode cX0_read 41 = .ok (.aload_n 0, 1) := by decide +kernel
theorem dX0_read_42 : decode cX0_read 42 = .ok (.aload_n 1, 1) := by decide +kernel
theorem dX0_read_43 : decode cX0_read 43 = .ok (.invokevirtual 39, 3) := by decide +kernel
theorem dX0_read_46 : decode cX0_read 46 = .ok (.goto (-34), 3) := by decide +kernel
theorem dX0_read_49 : decode cX0_read 49 = .ok (.iconst 0, 1) := by decide +kernel
theorem dX0_read_50 : decode cX0_read 50 = .ok (.istore 4, 2) := by decide +kernel
theorem dX0_read_52 : decode cX0_read 52 = .ok (.iload 4, 2) := by decide +kernel
theorem dX0_read_54 : decode cX0_read 54 = .ok (.iconst 3, 1) := by decide +kernel
theorem dX0_read_55 : decode cX0_read 55 = .ok (.if_icmp .ge 23, 3) := by decide +kernel
theorem dX0_read_58 : decode cX0_read 58 = .ok (.aload_n 0, 1) := by decide +kernel
theorem dX0_read_59 : decode cX0_read 59 = .ok (.getfield 9, 3) := by decide +kernel
theorem dX0_read_62 : decode cX0_read 62 = .ok (.iload 4, 2) := by decide +kernel
theorem dX0_read_64 : decode cX0_read 64 = .ok (.aload_n 0, 1) := by decide +kernel
theorem dX0_read_65 : decode cX0_read 65 = .ok (.getfield 15, 3) := by decide +kernel
theorem dX0_read_68 : decode cX0_read 68 = .ok (.iload 4, 2) := by decide +kernel
theorem dX0_read_70 : decode cX0_read 70 = .ok (.iaload, 1) := by decide +kernel
theorem dX0_read_71 : decode cX0_read 71 = .ok (.iastore, 1) := by decide +kernel
theorem dX0_read_72 : decode cX0_read 72 = .ok (.iinc 4 1, 3) := by decide +kernel
theorem dX0_read_75 : decode cX0_read 75 = .ok (.goto (-23), 3) := by decide +kernel
theorem dX0_read_78 : decode cX0_read 78 = .ok (.iload_n 3, 1) := by decide +kernel
theorem dX0_read_79 : decode cX0_read 79 = .ok (.ireturn, 1) := by decide +kernel
theorem dX0_begin_0 : decode cX0_begin 0 = .ok (.aload_n 0, 1) := by decide +kernel
theorem dX0_begin_1 : decode cX0_begin 1 = .ok (.iconst 0, 1) := by decide +kernel
theorem dX0_begin_2 : decode cX0_begin 2 = .ok (.putfield 29, 3) := by decide +kernel
theorem dX0_begin_5 : decode cX0_begin 5 = .ok (.aload_n 0, 1) := by decide +kernel
theorem dX0_begin_6 : decode cX0_begin 6 = .ok (.iload_n 1, 1) := by decide +kernel
theorem dX0_begin_7 : decode cX0_begin 7 = .ok (.putfield 32, 3) := by decide +kernel
theorem dX0_begin_10 : decode cX0_begin 10 = .ok (.aload_n 0, 1) := by decide +kernel
theorem dX0_begin_11 : decode cX0_begin 11 = .ok (.iconst 0, 1) := by decide +kernel
theorem dX0_begin_12 : decode cX0_begin 12 = .ok (.putfield 22, 3) := by decide +kernel
theorem dX0_begin_15 : decode cX0_begin 15 = .ok (.aload_n 0, 1) := by decide +kernel
theorem dX0_begin_16 : decode cX0_begin 16 = .ok (.iconst (-1), 1) := by decide +kernel
theorem dX0_begin_17 : decode cX0_begin 17 = .ok (.putfield 26, 3) := by decide +kernel
theorem dX0_begin_20 : decode cX0_begin 20 = .ok (.iconst 0, 1) := by decide +kernel
theorem dX0_begin_21 : decode cX0_begin 21 = .ok (.istore_n 2, 1) := by decide +kernel
theorem dX0_begin_22 : decode cX0_begin 22 = .ok (.iload_n 2, 1) := by decide +kernel
theorem dX0_begin_23 : decode cX0_begin 23 = .ok (.iconst 3, 1) := by decide +kernel
theorem dX0_begin_24 : decode cX0_begin 24 = .ok (.if_icmp .ge 27, 3) := by decide +kernel
theorem dX0_begin_27 : decode cX0_begin 27 = .ok (.aload_n 0, 1) := by decide +kernel
theorem dX0_begin_28 : decode cX0_begin 28 = .ok (.getfield 15, 3) := by decide +kernel
theorem dX0_begin_31 : decode cX0_begin 31 = .ok (.iload_n 2, 1) := by decide +kernel
theorem dX0_begin_32 : decode cX0_begin 32 = .ok (.getstatic 47, 3) := by decide +kernel
theorem dX0_begin_35 : decode cX0_begin 35 = .ok (.iload_n 2, 1) := by decide +kernel
theorem dX0_begin_36 : decode cX0_begin 36 = .ok (.iaload, 1) := by decide +kernel
theorem dX0_begin_37 : decode cX0_begin 37 = .ok (.iastore, 1) := by decide +kernel
theorem dX0_begin_38 : decode cX0_begin 38 = .ok (.aload_n 0, 1) := by decide +kernel
theorem dX0_begin_39 : decode cX0_begin 39 = .ok (.getfield 18, 3) := by decide +kernel
theorem dX0_begin_42 : decode cX0_begin 42 = .ok (.iload_n 2, 1) := by decide +kernel
theorem dX0_begin_43 : decode cX0_begin 43 = .ok (.iconst 0, 1) := by decide +kernel
theorem dX0_begin_44 : decode cX0_begin 44 = .ok (.bastore, 1) := by decide +kernel
theorem dX0_begin_45 : decode cX0_begin 45 = .ok (.iinc 2 1, 3) := by decide +kernel
theorem dX0_begin_48 : decode cX0_begin 48 = .ok (.goto (-26), 3) := by decide +kernel
theorem dX0_begin_51 : decode cX0_begin 51 = .ok (.return_, 1) := by decide +kernel
set_option maxRecDepth 20000 in
theorem ggX0_readLine_X0_readWord : GoodIn wsX0_readLine wsX0_readWord := goodIn_r _ [7, 1, 8, 9, 10, 11, 12, 13, 14, 15, 16, 17, 6, 18, 19, 20, 21, 22, 23, 24, 25, 26, 27, 28, 29, 30, 31, 32, 33, 34, 35, 36, 37, 38, 39, 40, 41, 42, 43, 44, 45, 46, 47, 48, 49, 50, 51, 52, 53, 54, 55, 56, 57, 58, 59, 60, 61, 62, 63, 64, 65, 66, 67, 68, 69, 70, 71, 104, 105, 106, 107, 108, 109, 110, 111, 112] (by decide +kernel) (by decide +kernel)
set_option maxRecDepth 20000 in
theorem gX0_readLine_X0_readWord : GoodIn wsX0_readLine (wsV RX0 50 RX0 yX0_readWord wsX0_readWord) := goodIn_app (goodIn_of _ (by decide +kernel)) ggX0_readLine_X0_readWord
set_option maxRecDepth 20000 in
theorem ggX0_readLine_X0_fail : GoodIn wsX0_readLine wsX0_fail := goodIn_r _ [75, 76, 77, 104, 105, 106, 107, 108, 109, 110] (by decide +kernel) (by decide +kernel)
set_option maxRecDepth 20000 in
theorem gX0_readLine_X0_fail : GoodIn wsX0_readLine (wsV RX0 54 RX0 yX0_fail wsX0_fail) := goodIn_app (goodIn_of _ (by decide +kernel)) ggX0_readLine_X0_fail
set_option maxRecDepth 20000 in
theorem ggX0_readLine_X0_skipBlanks : GoodIn wsX0_readLine wsX0_skipBlanks := goodIn_r _ [81, 1, 8, 9, 10, 11, 12, 13, 14, 15, 82, 83, 6, 84, 104, 105, 106, 107, 108, 109, 110, 111, 112] (by decide +kernel) (by decide +kernel)
set_option maxRecDepth 20000 in
theorem gX0_readLine_X0_skipBlanks : GoodIn wsX0_readLine (wsV RX0 39 RX0 yX0_skipBlanks wsX0_skipBlanks) := goodIn_app (goodIn_of _ (by decide +kernel)) ggX0_readLine_X0_skipBlanks
set_option maxRecDepth 20000 in
theorem ggX0_readLine_X0_readNumber : GoodIn wsX0_readLine wsX0_readNumber := goodIn_r _ [88, 1, 8, 89, 90, 91, 92, 93, 94, 95, 96, 9, 10, 11, 12, 13, 14, 15, 97, 98, 6, 99, 72, 73, 74, 75, 76, 77, 104, 105, 106, 107, 108, 109, 110, 111, 112] (by decide +kernel) (by decide +kernel)
set_option maxRecDepth 20000 in
theorem gX0_readLine_X0_readNumber : GoodIn wsX0_readLine (wsV RX0 58 RX0 yX0_readNumber wsX0_readNumber) := goodIn_app (goodIn_of _ (by decide +kernel)) ggX0_readLine_X0_readNumber
set_option maxRecDepth 20000 in
theorem ggX0_readLine_X0_readEnd : GoodIn wsX0_readLine wsX0_readEnd := goodIn_r _ [103, 1, 8, 78, 79, 80, 6, 81, 9, 10, 11, 12, 13, 14, 15, 82, 83, 84, 72, 73, 74, 75, 76, 77, 104, 105, 106, 107, 108, 109, 110, 111, 112] (by decide +kernel) (by decide +kernel)
set_option maxRecDepth 20000 in
theorem gX0_readLine_X0_readEnd : GoodIn wsX0_readLine (wsV RX0 62 RX0 yX0_readEnd wsX0_readEnd) := goodIn_app (goodIn_of _ (by decide +kernel)) ggX0_readLine_X0_readEnd
theorem dX0_readLine_0 : decode cX0_readLine 0 = .ok (.aload_n 0, 1) := by decide +kernel
theorem dX0_readLine_1 : decode cX0_readLine 1 = .ok (.getfield 29, 3) := by decide +kernel
theorem dX0_readLine_4 : decode cX0_readLine 4 = .ok (.istore_n 2, 1) := by decide +kernel
theorem dX0_readLine_5 : decode cX0_readLine 5 = .ok (.aload_n 0, 1) := by decide +kernel
theorem dX0_readLine_6 : decode cX0_readLine 6 = .ok (.aload_n 1, 1) := by decide +kernel
theorem dX0_readLine_7 : decode cX0_readLine 7 = .ok (.invokevirtual 50, 3) := by decide +kernel
theorem dX0_readLine_10 : decode cX0_readLine 10 = .ok (.istore_n 3, 1) := by decide +kernel
theorem dX0_readLine_11 : decode cX0_readLine 11 = .ok (.iload_n 3, 1) := by decide +kernel
theorem dX0_readLine_12 : decode cX0_readLine 12 = .ok (.iconst (-1), 1) := by decide +kernel
theorem dX0_readLine_13 : decode cX0_readLine 13 = .ok (.if_icmp .ne 10, 3) := by decide +kernel
theorem dX0_readLine_16 : decode cX0_readLine 16 = .ok (.aload_n 0, 1) := by decide +kernel
theorem dX0_readLine_17 : decode cX0_readLine 17 = .ok (.iconst 1, 1) := by decide +kernel
theorem dX0_readLine_18 : decode cX0_readLine 18 = .ok (.iload_n 2, 1) := by decide +kernel
theorem dX0_readLine_19 : decode cX0_readLine 19 = .ok (.invokevirtual 54, 3) := by decide +kernel
theorem dX0_readLine_22 : decode cX0_readLine 22 = .ok (.ireturn, 1) := by decide +kernel
theorem dX0_readLine_23 : decode cX0_readLine 23 = .ok (.aload_n 0, 1) := by decide +kernel
theorem dX0_readLine_24 : decode cX0_readLine 24 = .ok (.getfield 18, 3) := by decide +kernel
theorem dX0_readLine_27 : decode cX0_readLine 27 = .ok (.iload_n 3, 1) := by decide +kernel
theorem dX0_readLine_28 : decode cX0_readLine 28 = .ok (.baload, 1) := by decide +kernel
theorem dX0_readLine_29 : decode cX0_readLine 29 = .ok (.ifCond .eq 10, 3) := by decide +kernel
theorem dX0_readLine_32 : decode cX0_readLine 32 = .ok (.aload_n 0, 1) := by decide +kernel
theorem dX0_readLine_33 : decode cX0_readLine 33 = .ok (.iconst 3, 1) := by decide +kernel
theorem dX0_readLine_34 : decode cX0_readLine 34 = .ok (.iload_n 2, 1) := by decide +kernel
theorem dX0_readLine_35 : decode cX0_readLine 35 = .ok (.invokevirtual 54, 3) := by decide +kernel
theorem dX0_readLine_38 : decode cX0_readLine 38 = .ok (.ireturn, 1) := by decide +kernel
theorem dX0_readLine_39 : decode cX0_readLine 39 = .ok (.aload_n 0, 1) := by decide +kernel
theorem dX0_readLine_40 : decode cX0_readLine 40 = .ok (.getfield 18, 3) := by decide +kernel
theorem dX0_readLine_43 : decode cX0_readLine 43 = .ok (.iload_n 3, 1) := by decide +kernel
theorem dX0_readLine_44 : decode cX0_readLine 44 = .ok (.iconst 1, 1) := by decide +kernel
theorem dX0_readLine_45 : decode cX0_readLine 45 = .ok (.bastore, 1) := by decide +kernel
theorem dX0_readLine_46 : decode cX0_readLine 46 = .ok (.aload_n 0, 1) := by decide +kernel
theorem dX0_readLine_47 : decode cX0_readLine 47 = .ok (.aload_n 1, 1) := by decide +kernel
theorem dX0_readLine_48 : decode cX0_readLine 48 = .ok (.invokevirtual 39, 3) := by decide +kernel
theorem dX0_readLine_51 : decode cX0_readLine 51 = .ok (.aload_n 0, 1) := by decide +kernel
theorem dX0_readLine_52 : decode cX0_readLine 52 = .ok (.aload_n 1, 1) := by decide +kernel
theorem dX0_readLine_53 : decode cX0_readLine 53 = .ok (.iload_n 3, 1) := by decide +kernel
theorem dX0_readLine_54 : decode cX0_readLine 54 = .ok (.invokevirtual 58, 3) := by decide +kernel
theorem dX0_readLine_57 : decode cX0_readLine 57 = .ok (.ifCond .eq 15, 3) := by decide +kernel
theorem dX0_readLine_60 : decode cX0_readLine 60 = .ok (.aload_n 0, 1) := by decide +kernel
theorem dX0_readLine_61 : decode cX0_readLine 61 = .ok (.aload_n 1, 1) := by decide +kernel
theorem dX0_readLine_62 : decode cX0_readLine 62 = .ok (.invokevirtual 62, 3) := by decide +kernel
theorem dX0_readLine_65 : decode cX0_readLine 65 = .ok (.ifCond .eq 7, 3) := by decide +kernel
theorem dX0_readLine_68 : decode cX0_readLine 68 = .ok (.iconst 1, 1) := by decide +kernel
theorem dX0_readLine_69 : decode cX0_readLine 69 = .ok (.goto 4, 3) := by decide +kernel
theorem dX0_readLine_72 : decode cX0_readLine 72 = .ok (.iconst 0, 1) := by decide +kernel
theorem dX0_readLine_73 : decode cX0_readLine 73 = .ok (.ireturn, 1) := by decide +kernel
set_option maxRecDepth 20000 in
theorem ggX0_readWord_X3_at : GoodIn wsX0_readWord wsX3_at := goodIn_r _ [7, 8, 9, 74, 75] (by decide +kernel) (by decide +kernel)
set_option maxRecDepth 20000 in
theorem gX0_readWord_X3_at : GoodIn wsX0_readWord (wsV RX0 65 RX3 yX3_at wsX3_at) := goodIn_app (goodIn_of _ (by decide +kernel)) ggX0_readWord_X3_at
set_option maxRecDepth 20000 in
theorem ggX0_readWord_X0_isLetter : GoodIn wsX0_readWord wsX0_isLetter := goodIn_r _ [13] (by decide +kernel) (by decide +kernel)
set_option maxRecDepth 20000 in
theorem gX0_readWord_X0_isLetter : GoodIn wsX0_readWord (va_wsS RX0 70 yX0_isLetter wsX0_isLetter) := goodIn_app (goodIn_of _ (by decide +kernel)) ggX0_readWord_X0_isLetter
set_option maxRecDepth 20000 in
theorem ggX0_readWord_X0_isWord : GoodIn wsX0_readWord wsX0_isWord := goodIn_r _ [17, 1, 18, 19, 20, 21, 22, 23, 24, 25, 26, 27, 28, 29, 3, 4, 5, 6, 7, 8, 9, 30, 31, 32, 33, 34, 35, 36, 37, 38, 39, 40, 41, 42, 43, 44, 45, 46, 47, 48, 49, 50, 51, 52, 53, 54, 55, 56, 57, 58, 59, 60, 61, 62, 63, 64, 65, 66, 67, 68, 69, 70, 71, 72, 73, 74, 75] (by decide +kernel) (by decide +kernel)
set_option maxRecDepth 20000 in
theorem gX0_readWord_X0_isWord : GoodIn wsX0_readWord (wsV RX0 76 RX0 yX0_isWord wsX0_isWord) := goodIn_app (goodIn_of _ (by decide +kernel)) ggX0_readWord_X0_isWord
theorem dX0_readWord_0 : decode cX0_readWord 0 = .ok (.aload_n 0, 1) := by decide +kernel
theorem dX0_readWord_1 : decode cX0_readWord 1 = .ok (.getfield 29, 3) := by decide +kernel
theorem dX0_readWord_4 : decode cX0_readWord 4 = .ok (.istore_n 2, 1) := by decide +kernel
theorem dX0_readWord_5 : decode cX0_readWord 5 = .ok (.aload_n 0, 1) := by decide +kernel
theorem dX0_readWord_6 : decode cX0_readWord 6 = .ok (.getfield 29, 3) := by decide +kernel
theorem dX0_readWord_9 : decode cX0_readWord 9 = .ok (.aload_n 0, 1) := by decide +kernel
theorem dX0_readWord_10 : decode cX0_readWord 10 = .ok (.getfield 32, 3) := by decide +kernel
theorem dX0_readWord_13 : decode cX0_readWord 13 = .ok (.if_icmp .ge 30, 3) := by decide +kernel
theorem dX0_readWord_16 : decode cX0_readWord 16 = .ok (.aload_n 1, 1) := by decide +kernel
theorem dX0_readWord_17 : decode cX0_readWord 17 = .ok (.aload_n 0, 1) := by decide +kernel
theorem dX0_readWord_18 : decode cX0_readWord 18 = .ok (.getfield 29, 3) := by decide +kernel
theorem dX0_readWord_21 : decode cX0_readWord 21 = .ok (.invokevirtual 65, 3) := by decide +kernel
theorem dX0_readWord_24 : decode cX0_readWord 24 = .ok (.invokestatic 70, 3) := by decide +kernel
theorem dX0_readWord_27 : decode cX0_readWord 27 = .ok (.ifCond .eq 16, 3) := by decide +kernel
theorem dX0_readWord_30 : decode cX0_readWord 30 = .ok (.aload_n 0, 1) := by decide +kernel
theorem dX0_readWord_31 : decode cX0_readWord 31 = .ok (.dup, 1) := by decide +kernel
theorem dX0_readWord_32 : decode cX0_readWord 32 = .ok (.getfield 29, 3) := by decide +kernel
theorem dX0_readWord_35 : decode cX0_readWord 35 = .ok (.iconst 1, 1) := by decide +kernel
theorem dX0_readWord_36 : decode cX0_readWord 36 = .ok (.iadd, 1) := by decide +kernel
theorem dX0_readWord_37 : decode cX0_readWord 37 = .ok (.putfield 29, 3) := by decide +kernel
theorem dX0_readWord_40 : decode cX0_readWord 40 = .ok (.goto (-35), 3) := by decide +kernel
theorem dX0_readWord_43 : decode cX0_readWord 43 = .ok (.aload_n 0, 1) := by decide +kernel
theorem dX0_readWord_44 : decode cX0_readWord 44 = .ok (.aload_n 1, 1) := by decide +kernel
theorem dX0_readWord_45 : decode cX0_readWord 45 = .ok (.iload_n 2, 1) := by decide +kernel
theorem dX0_readWord_46 : decode cX0_readWord 46 = .ok (.ldc 74, 2) := by decide +kernel
theorem dX0_readWord_48 : decode cX0_readWord 48 = .ok (.invokevirtual 76, 3) := by decide +kernel
theorem dX0_readWord_51 : decode cX0_readWord 51 = .ok (.ifCond .eq 5, 3) := by decide +kernel
theorem dX0_readWord_54 : decode cX0_readWord 54 = .ok (.iconst 0, 1) := by decide +kernel
theorem dX0_readWord_55 : decode cX0_readWord 55 = .ok (.ireturn, 1) := by decide +kernel
theorem dX0_readWord_56 : decode cX0_readWord 56 = .ok (.aload_n 0, 1) := by decide +kernel
theorem dX0_readWord_57 : decode cX0_readWord 57 = .ok (.aload_n 1, 1) := by decide +kernel
theorem dX0_readWord_58 : decode cX0_readWord 58 = .ok (.iload_n 2, 1) := by decide +kernel
theorem dX0_readWord_59 : decode cX0_readWord 59 = .ok (.ldc 80, 2) := by decide +kernel
theorem dX0_readWord_61 : decode cX0_readWord 61 = .ok (.invokevirtual 76, 3) := by decide +kernel
theorem dX0_readWord_64 : decode cX0_readWord 64 = .ok (.ifCond .eq 5, 3) := by decide +kernel
theorem dX0_readWord_67 : decode cX0_readWord 67 = .ok (.iconst 1, 1) := by decide +kernel
theorem dX0_readWord_68 : decode cX0_readWord 68 = .ok (.ireturn, 1) := by decide +kernel
theorem dX0_readWord_69 : decode cX0_readWord 69 = .ok (.aload_n 0, 1) := by decide +kernel
theorem dX0_readWord_70 : decode cX0_readWord 70 = .ok (.aload_n 1, 1) := by decide +kernel
theorem dX0_readWord_71 : decode cX0_readWord 71 = .ok (.iload_n 2, 1) := by decide +kernel
theorem dX0_readWord_72 : decode cX0_readWord 72 = .ok (.ldc 82, 2) := by decide +kernel
theorem dX0_readWord_74 : decode cX0_readWord 74 = .ok (.invokevirtual 76, 3) := by decide +kernel
theorem dX0_readWord_77 : decode cX0_readWord 77 = .ok (.ifCond .eq 7, 3) := by decide +kernel
theorem dX0_readWord_80 : decode cX0_readWord 80 = .ok (.iconst 2, 1) := by decide +kernel
theorem dX0_readWord_81 : decode cX0_readWord 81 = .ok (.goto 4, 3) := by decide +kernel
theorem dX0_readWord_84 : decode cX0_readWord 84 = .ok (.iconst (-1), 1) := by decide +kernel
theorem dX0_readWord_85 : decode cX0_readWord 85 = .ok (.ireturn, 1) := by decide +kernel
set_option maxRecDepth 20000 in
theorem ggX0_isWord_J0_length_8abf5 : GoodIn wsX0_isWord wsJ0_length_8abf5 := goodIn_r _ [6, 7, 8, 9, 10, 5, 11, 12, 13] (by decide +kernel) (by decide +kernel)
set_option maxRecDepth 20000 in
theorem gX0_isWord_J0_length_8abf5 : GoodIn wsX0_isWord (wsV RX0 84 RJ0 yJ0_length_8abf5 wsJ0_length_8abf5) := goodIn_app (goodIn_of _ (by decide +kernel)) ggX0_isWord_J0_length_8abf5
set_option maxRecDepth 20000 in
theorem ggX0_isWord_X3_at : GoodIn wsX0_isWord wsX3_at := goodIn_r _ [18, 19, 20, 65, 66] (by decide +kernel) (by decide +kernel)
set_option maxRecDepth 20000 in
theorem gX0_isWord_X3_at : GoodIn wsX0_isWord (wsV RX0 65 RX3 yX3_at wsX3_at) := goodIn_app (goodIn_of _ (by decide +kernel)) ggX0_isWord_X3_at
set_option maxRecDepth 20000 in
theorem ggX0_isWord_J0_charAt_5068e : GoodIn wsX0_isWord wsJ0_charAt_5068e := goodIn_r _ [24, 7, 25, 26, 27, 5, 28, 12, 13, 29, 30, 31, 32, 33, 34, 35, 36, 37, 38, 39, 40, 41, 42, 43, 44, 45, 46, 47, 48, 49, 50, 51, 52, 53, 54, 55, 56, 57] (by decide +kernel) (by decide +kernel)
set_option maxRecDepth 20000 in
theorem gX0_isWord_J0_charAt_5068e : GoodIn wsX0_isWord (wsV RX0 90 RJ0 yJ0_charAt_5068e wsJ0_charAt_5068e) := goodIn_app (goodIn_of _ (by decide +kernel)) ggX0_isWord_J0_charAt_5068e
theorem dX0_isWord_0 : decode cX0_isWord 0 = .ok (.aload_n 0, 1) := by decide +kernel
theorem dX0_isWord_1 : decode cX0_isWord 1 = .ok (.getfield 29, 3) := by decide +kernel
theorem dX0_isWord_4 : decode cX0_isWord 4 = .ok (.iload_n 2, 1) := by decide +kernel
theorem dX0_isWord_5 : decode cX0_isWord 5 = .ok (.isub, 1) := by decide +kernel
theorem dX0_isWord_6 : decode cX0_isWord 6 = .ok (.aload_n 3, 1) := by decide +kernel
theorem dX0_isWord_7 : decode cX0_isWord 7 = .ok (.invokevirtual 84, 3) := by decide +kernel
theorem dX0_isWord_10 : decode cX0_isWord 10 = .ok (.if_icmp .eq 5, 3) := by decide +kernel
theorem dX0_isWord_13 : decode cX0_isWord 13 = .ok (.iconst 0, 1) := by decide +kernel
theorem dX0_isWord_14 : decode cX0_isWord 14 = .ok (.ireturn, 1) := by decide +kernel
theorem dX0_isWord_15 : decode cX0_isWord 15 = .ok (.iconst 0, 1) := by decide +kernel
theorem dX0_isWord_16 : decode cX0_isWord 16 = .ok (.istore 4, 2) := by decide +kernel
theorem dX0_isWord_18 : decode cX0_isWord 18 = .ok (.iload 4, 2) := by decide +kernel
theorem dX0_isWord_20 : decode cX0_isWord 20 = .ok (.aload_n 3, 1) := by decide +kernel
theorem dX0_isWord_21 : decode cX0_isWord 21 = .ok (.invokevirtual 84, 3) := by decide +kernel
theorem dX0_isWord_24 : decode cX0_isWord 24 = .ok (.if_icmp .ge 28, 3) := by decide +kernel
theorem dX0_isWord_27 : decode cX0_isWord 27 = .ok (.aload_n 1, 1) := by decide +kernel
theorem dX0_isWord_28 : decode cX0_isWord 28 = .ok (.iload_n 2, 1) := by decide +kernel
theorem dX0_isWord_29 : decode cX0_isWord 29 = .ok (.iload 4, 2) := by decide +kernel
theorem dX0_isWord_31 : decode cX0_isWord 31 = .ok (.iadd, 1) := by decide +kernel
theorem dX0_isWord_32 : decode cX0_isWord 32 = .ok (.invokevirtual 65, 3) := by decide +kernel
theorem dX0_isWord_35 : decode cX0_isWord 35 = .ok (.aload_n 3, 1) := by decide +kernel
theorem dX0_isWord_36 : decode cX0_isWord 36 = .ok (.iload 4, 2) := by decide +kernel
theorem dX0_isWord_38 : decode cX0_isWord 38 = .ok (.invokevirtual 90, 3) := by decide +kernel
theorem dX0_isWord_41 : decode cX0_isWord 41 = .ok (.if_icmp .eq 5, 3) := by decide +kernel
theorem dX0_isWord_44 : decode cX0_isWord 44 = .ok (.iconst 0, 1) := by decide +kernel
theorem dX0_isWord_45 : decode cX0_isWord 45 = .ok (.ireturn, 1) := by decide +kernel
theorem dX0_isWord_46 : decode cX0_isWord 46 = .ok (.iinc 4 1, 3) := by decide +kernel
theorem dX0_isWord_49 : decode cX0_isWord 49 = .ok (.goto (-31), 3) := by decide +kernel
theorem dX0_isWord_52 : decode cX0_isWord 52 = .ok (.iconst 1, 1) := by decide +kernel
theorem dX0_isWord_53 : decode cX0_isWord 53 = .ok (.ireturn, 1) := by decide +kernel
set_option maxRecDepth 20000 in
theorem ggX0_readNumber_X3_at : GoodIn wsX0_readNumber wsX3_at := goodIn_r _ [15, 16, 17, 35, 36] (by decide +kernel) (by decide +kernel)
set_option maxRecDepth 20000 in
theorem gX0_readNumber_X3_at : GoodIn wsX0_readNumber (wsV RX0 65 RX3 yX3_at wsX3_at) := goodIn_app (goodIn_of _ (by decide +kernel)) ggX0_readNumber_X3_at
set_option maxRecDepth 20000 in
theorem ggX0_readNumber_X0_isDigit : GoodIn wsX0_readNumber wsX0_isDigit := goodIn_r _ [21] (by decide +kernel) (by decide +kernel)
set_option maxRecDepth 20000 in
theorem gX0_readNumber_X0_isDigit : GoodIn wsX0_readNumber (va_wsS RX0 94 yX0_isDigit wsX0_isDigit) := goodIn_app (goodIn_of _ (by decide +kernel)) ggX0_readNumber_X0_isDigit
set_option maxRecDepth 20000 in
theorem ggX0_readNumber_X0_fail : GoodIn wsX0_readNumber wsX0_fail := goodIn_r _ [25, 26, 27, 28, 29, 30, 31, 32, 33, 34] (by decide +kernel) (by decide +kernel)
set_option maxRecDepth 20000 in
theorem gX0_readNumber_X0_fail : GoodIn wsX0_readNumber (wsV RX0 54 RX0 yX0_fail wsX0_fail) := goodIn_app (goodIn_of _ (by decide +kernel)) ggX0_readNumber_X0_fail
theorem dX0_readNumber_0 : decode cX0_readNumber 0 = .ok (.aload_n 0, 1) := by decide +kernel
theorem dX0_readNumber_1 : decode cX0_readNumber 1 = .ok (.getfield 29, 3) := by decide +kernel
theorem dX0_readNumber_4 : decode cX0_readNumber 4 = .ok (.istore_n 3, 1) := by decide +kernel
theorem dX0_readNumber_5 : decode cX0_readNumber 5 = .ok (.iconst 0, 1) := by decide +kernel
theorem dX0_readNumber_6 : decode cX0_readNumber 6 = .ok (.istore 4, 2) := by decide +kernel
theorem dX0_readNumber_8 : decode cX0_readNumber 8 = .ok (.aload_n 0, 1) := by decide +kernel
theorem dX0_readNumber_9 : decode cX0_readNumber 9 = .ok (.getfield 29, 3) := by decide +kernel
theorem dX0_readNumber_12 : decode cX0_readNumber 12 = .ok (.aload_n 0, 1) := by decide +kernel
theorem dX0_readNumber_13 : decode cX0_readNumber 13 = .ok (.getfield 32, 3) := by decide +kernel
theorem dX0_readNumber_16 : decode cX0_readNumber 16 = .ok (.if_icmp .ge 54, 3) := by decide +kernel
theorem dX0_readNumber_19 : decode cX0_readNumber 19 = .ok (.aload_n 1, 1) := by decide +kernel
theorem dX0_readNumber_20 : decode cX0_readNumber 20 = .ok (.aload_n 0, 1) := by decide +kernel
theorem dX0_readNumber_21 : decode cX0_readNumber 21 = .ok (.getfield 29, 3) := by decide +kernel
theorem dX0_readNumber_24 : decode cX0_readNumber 24 = .ok (.invokevirtual 65, 3) := by decide +kernel
theorem dX0_readNumber_27 : decode cX0_readNumber 27 = .ok (.invokestatic 94, 3) := by decide +kernel
theorem dX0_readNumber_30 : decode cX0_readNumber 30 = .ok (.ifCond .eq 40, 3) := by decide +kernel
theorem dX0_readNumber_33 : decode cX0_readNumber 33 = .ok (.ldc 97, 2) := by decide +kernel
theorem dX0_readNumber_35 : decode cX0_readNumber 35 = .ok (.iload 4, 2) := by decide +kernel
theorem dX0_readNumber_37 : decode cX0_readNumber 37 = .ok (.bipush 10, 2) := by decide +kernel
theorem dX0_readNumber_39 : decode cX0_readNumber 39 = .ok (.imul, 1) := by decide +kernel
theorem dX0_readNumber_40 : decode cX0_readNumber 40 = .ok (.aload_n 1, 1) := by decide +kernel
theorem dX0_readNumber_41 : decode cX0_readNumber 41 = .ok (.aload_n 0, 1) := by decide +kernel
theorem dX0_readNumber_42 : decode cX0_readNumber 42 = .ok (.getfield 29, 3) := by decide +kernel
theorem dX0_readNumber_45 : decode cX0_readNumber 45 = .ok (.invokevirtual 65, 3) := by decide +kernel
theorem dX0_readNumber_48 : decode cX0_readNumber 48 = .ok (.iadd, 1) := by decide +kernel
theorem dX0_readNumber_49 : decode cX0_readNumber 49 = .ok (.bipush 48, 2) := by decide +kernel
theorem dX0_readNumber_51 : decode cX0_readNumber 51 = .ok (.isub, 1) := by decide +kernel
theorem dX0_readNumber_52 : decode cX0_readNumber 52 = .ok (.invokestatic 98, 3) := by decide +kernel
theorem dX0_readNumber_55 : decode cX0_readNumber 55 = .ok (.istore 4, 2) := by decide +kernel
theorem dX0_readNumber_57 : decode cX0_readNumber 57 = .ok (.aload_n 0, 1) := by decide +kernel
theorem dX0_readNumber_58 : decode cX0_readNumber 58 = .ok (.dup, 1) := by decide +kernel
theorem dX0_readNumber_59 : decode cX0_readNumber 59 = .ok (.getfield 29, 3) := by decide +kernel
theorem dX0_readNumber_62 : decode cX0_readNumber 62 = .ok (.iconst 1, 1) := by decide +kernel
theorem dX0_readNumber_63 : decode cX0_readNumber 63 = .ok (.iadd, 1) := by decide +kernel
theorem dX0_readNumber_64 : decode cX0_readNumber 64 = .ok (.putfield 29, 3) := by decide +kernel
theorem dX0_readNumber_67 : decode cX0_readNumber 67 = .ok (.goto (-59), 3) := by decide +kernel
theorem dX0_readNumber_70 : decode cX0_readNumber 70 = .ok (.aload_n 0, 1) := by decide +kernel
theorem dX0_readNumber_71 : decode cX0_readNumber 71 = .ok (.getfield 29, 3) := by decide +kernel
theorem dX0_readNumber_74 : decode cX0_readNumber 74 = .ok (.iload_n 3, 1) := by decide +kernel
theorem dX0_readNumber_75 : decode cX0_readNumber 75 = .ok (.if_icmp .ne 10, 3) := by decide +kernel
theorem dX0_readNumber_78 : decode cX0_readNumber 78 = .ok (.aload_n 0, 1) := by decide +kernel
theorem dX0_readNumber_79 : decode cX0_readNumber 79 = .ok (.iconst 1, 1) := by decide +kernel
theorem dX0_readNumber_80 : decode cX0_readNumber 80 = .ok (.iload_n 3, 1) := by decide +kernel
theorem dX0_readNumber_81 : decode cX0_readNumber 81 = .ok (.invokevirtual 54, 3) := by decide +kernel
theorem dX0_readNumber_84 : decode cX0_readNumber 84 = .ok (.ireturn, 1) := by decide +kernel
theorem dX0_readNumber_85 : decode cX0_readNumber 85 = .ok (.iload 4, 2) := by decide +kernel
theorem dX0_readNumber_87 : decode cX0_readNumber 87 = .ok (.getstatic 104, 3) := by decide +kernel
theorem dX0_readNumber_90 : decode cX0_readNumber 90 = .ok (.iload_n 2, 1) := by decide +kernel
theorem dX0_readNumber_91 : decode cX0_readNumber 91 = .ok (.iaload, 1) := by decide +kernel
theorem dX0_readNumber_92 : decode cX0_readNumber 92 = .ok (.if_icmp .lt 13, 3) := by decide +kernel
theorem dX0_readNumber_95 : decode cX0_readNumber 95 = .ok (.iload 4, 2) := by decide +kernel
theorem dX0_readNumber_97 : decode cX0_readNumber 97 = .ok (.getstatic 107, 3) := by decide +kernel
theorem dX0_readNumber_100 : decode cX0_readNumber 100 = .ok (.iload_n 2, 1) := by decide +kernel
theorem dX0_readNumber_101 : decode cX0_readNumber 101 = .ok (.iaload, 1) := by decide +kernel
theorem dX0_readNumber_102 : decode cX0_readNumber 102 = .ok (.if_icmp .le 10, 3) := by decide +kernel
theorem dX0_readNumber_105 : decode cX0_readNumber 105 = .ok (.aload_n 0, 1) := by decide +kernel
theorem dX0_readNumber_106 : decode cX0_readNumber 106 = .ok (.iconst 2, 1) := by decide +kernel
theorem dX0_readNumber_107 : decode cX0_readNumber 107 = .ok (.iload_n 3, 1) := by decide +kernel
theorem dX0_readNumber_108 : decode cX0_readNumber 108 = .ok (.invokevirtual 54, 3) := by decide +kernel
theorem dX0_readNumber_111 : decode cX0_readNumber 111 = .ok (.ireturn, 1) := by decide +kernel
theorem dX0_readNumber_112 : decode cX0_readNumber 112 = .ok (.aload_n 0, 1) := by decide +kernel
theorem dX0_readNumber_113 : decode cX0_readNumber 113 = .ok (.getfield 15, 3) := by decide +kernel
theorem dX0_readNumber_116 : decode cX0_readNumber 116 = .ok (.iload_n 2, 1) := by decide +kernel
theorem dX0_readNumber_117 : decode cX0_readNumber 117 = .ok (.iload 4, 2) := by decide +kernel
theorem dX0_readNumber_119 : decode cX0_readNumber 119 = .ok (.iastore, 1) := by decide +kernel
theorem dX0_readNumber_120 : decode cX0_readNumber 120 = .ok (.iconst 1, 1) := by decide +kernel
theorem dX0_readNumber_121 : decode cX0_readNumber 121 = .ok (.ireturn, 1) := by decide +kernel
set_option maxRecDepth 20000 in
theorem ggX0_readEnd_X0_skipBlanks : GoodIn wsX0_readEnd wsX0_skipBlanks := goodIn_r _ [7, 1, 2, 8, 9, 10, 11, 12, 13, 14, 15, 16, 6, 17, 24, 25, 26, 27, 28, 29, 30, 31, 32] (by decide +kernel) (by decide +kernel)
set_option maxRecDepth 20000 in
theorem gX0_readEnd_X0_skipBlanks : GoodIn wsX0_readEnd (wsV RX0 39 RX0 yX0_skipBlanks wsX0_skipBlanks) := goodIn_app (goodIn_of _ (by decide +kernel)) ggX0_readEnd_X0_skipBlanks
set_option maxRecDepth 20000 in
theorem ggX0_readEnd_X3_at : GoodIn wsX0_readEnd wsX3_at := goodIn_r _ [12, 13, 14, 31, 32] (by decide +kernel) (by decide +kernel)
set_option maxRecDepth 20000 in
theorem gX0_readEnd_X3_at : GoodIn wsX0_readEnd (wsV RX0 65 RX3 yX3_at wsX3_at) := goodIn_app (goodIn_of _ (by decide +kernel)) ggX0_readEnd_X3_at
set_option maxRecDepth 20000 in
theorem ggX0_readEnd_X0_fail : GoodIn wsX0_readEnd wsX0_fail := goodIn_r _ [21, 22, 23, 24, 25, 26, 27, 28, 29, 30] (by decide +kernel) (by decide +kernel)
set_option maxRecDepth 20000 in
theorem gX0_readEnd_X0_fail : GoodIn wsX0_readEnd (wsV RX0 54 RX0 yX0_fail wsX0_fail) := goodIn_app (goodIn_of _ (by decide +kernel)) ggX0_readEnd_X0_fail
theorem dX0_readEnd_0 : decode cX0_readEnd 0 = .ok (.aload_n 0, 1) := by decide +kernel
theorem dX0_readEnd_1 : decode cX0_readEnd 1 = .ok (.aload_n 1, 1) := by decide +kernel
theorem dX0_readEnd_2 : decode cX0_readEnd 2 = .ok (.invokevirtual 39, 3) := by decide +kernel
theorem dX0_readEnd_5 : decode cX0_readEnd 5 = .ok (.aload_n 0, 1) := by decide +kernel
theorem dX0_readEnd_6 : decode cX0_readEnd 6 = .ok (.getfield 29, 3) := by decide +kernel
theorem dX0_readEnd_9 : decode cX0_readEnd 9 = .ok (.aload_n 0, 1) := by decide +kernel
theorem dX0_readEnd_10 : decode cX0_readEnd 10 = .ok (.getfield 32, 3) := by decide +kernel
theorem dX0_readEnd_13 : decode cX0_readEnd 13 = .ok (.if_icmp .ge 16, 3) := by decide +kernel
theorem dX0_readEnd_16 : decode cX0_readEnd 16 = .ok (.aload_n 1, 1) := by decide +kernel
theorem dX0_readEnd_17 : decode cX0_readEnd 17 = .ok (.aload_n 0, 1) := by decide +kernel
theorem dX0_readEnd_18 : decode cX0_readEnd 18 = .ok (.getfield 29, 3) := by decide +kernel
theorem dX0_readEnd_21 : decode cX0_readEnd 21 = .ok (.invokevirtual 65, 3) := by decide +kernel
theorem dX0_readEnd_24 : decode cX0_readEnd 24 = .ok (.bipush 59, 2) := by decide +kernel
theorem dX0_readEnd_26 : decode cX0_readEnd 26 = .ok (.if_icmp .eq 13, 3) := by decide +kernel
theorem dX0_readEnd_29 : decode cX0_readEnd 29 = .ok (.aload_n 0, 1) := by decide +kernel
theorem dX0_readEnd_30 : decode cX0_readEnd 30 = .ok (.iconst 1, 1) := by decide +kernel
theorem dX0_readEnd_31 : decode cX0_readEnd 31 = .ok (.aload_n 0, 1) := by decide +kernel
theorem dX0_readEnd_32 : decode cX0_readEnd 32 = .ok (.getfield 29, 3) := by decide +kernel
theorem dX0_readEnd_35 : decode cX0_readEnd 35 = .ok (.invokevirtual 54, 3) := by decide +kernel
theorem dX0_readEnd_38 : decode cX0_readEnd 38 = .ok (.ireturn, 1) := by decide +kernel
theorem dX0_readEnd_39 : decode cX0_readEnd 39 = .ok (.aload_n 0, 1) := by decide +kernel
theorem dX0_readEnd_40 : decode cX0_readEnd 40 = .ok (.dup, 1) := by decide +kernel
theorem dX0_readEnd_41 : decode cX0_readEnd 41 = .ok (.getfield 29, 3) := by decide +kernel
theorem dX0_readEnd_44 : decode cX0_readEnd 44 = .ok (.iconst 1, 1) := by decide +kernel
theorem dX0_readEnd_45 : decode cX0_readEnd 45 = .ok (.iadd, 1) := by decide +kernel
theorem dX0_readEnd_46 : decode cX0_readEnd 46 = .ok (.putfield 29, 3) := by decide +kernel
theorem dX0_readEnd_49 : decode cX0_readEnd 49 = .ok (.iconst 1, 1) := by decide +kernel
theorem dX0_readEnd_50 : decode cX0_readEnd 50 = .ok (.ireturn, 1) := by decide +kernel
set_option maxRecDepth 20000 in
theorem ggX0_skipBlanks_X3_at : GoodIn wsX0_skipBlanks wsX3_at := goodIn_r _ [7, 8, 9, 21, 22] (by decide +kernel) (by decide +kernel)
set_option maxRecDepth 20000 in
theorem gX0_skipBlanks_X3_at : GoodIn wsX0_skipBlanks (wsV RX0 65 RX3 yX3_at wsX3_at) := goodIn_app (goodIn_of _ (by decide +kernel)) ggX0_skipBlanks_X3_at
set_option maxRecDepth 20000 in
theorem ggX0_skipBlanks_X0_isBlank : GoodIn wsX0_skipBlanks wsX0_isBlank := goodIn_r _ [13] (by decide +kernel) (by decide +kernel)
set_option maxRecDepth 20000 in
theorem gX0_skipBlanks_X0_isBlank : GoodIn wsX0_skipBlanks (va_wsS RX0 110 yX0_isBlank wsX0_isBlank) := goodIn_app (goodIn_of _ (by decide +kernel)) ggX0_skipBlanks_X0_isBlank
theorem dX0_skipBlanks_0 : decode cX0_skipBlanks 0 = .ok (.aload_n 0, 1) := by decide +kernel
theorem dX0_skipBlanks_1 : decode cX0_skipBlanks 1 = .ok (.getfield 29, 3) := by decide +kernel
theorem dX0_skipBlanks_4 : decode cX0_skipBlanks 4 = .ok (.aload_n 0, 1) := by decide +kernel
theorem dX0_skipBlanks_5 : decode cX0_skipBlanks 5 = .ok (.getfield 32, 3) := by decide +kernel
theorem dX0_skipBlanks_8 : decode cX0_skipBlanks 8 = .ok (.if_icmp .ge 30, 3) := by decide +kernel
theorem dX0_skipBlanks_11 : decode cX0_skipBlanks 11 = .ok (.aload_n 1, 1) := by decide +kernel
theorem dX0_skipBlanks_12 : decode cX0_skipBlanks 12 = .ok (.aload_n 0, 1) := by decide +kernel
theorem dX0_skipBlanks_13 : decode cX0_skipBlanks 13 = .ok (.getfield 29, 3) := by decide +kernel
theorem dX0_skipBlanks_16 : decode cX0_skipBlanks 16 = .ok (.invokevirtual 65, 3) := by decide +kernel
theorem dX0_skipBlanks_19 : decode cX0_skipBlanks 19 = .ok (.invokestatic 110, 3) := by decide +kernel
theorem dX0_skipBlanks_22 : decode cX0_skipBlanks 22 = .ok (.ifCond .eq 16, 3) := by decide +kernel
theorem dX0_skipBlanks_25 : decode cX0_skipBlanks 25 = .ok (.aload_n 0, 1) := by decide +kernel
theorem dX0_skipBlanks_26 : decode cX0_skipBlanks 26 = .ok (.dup, 1) := by decide +kernel
theorem dX0_skipBlanks_27 : decode cX0_skipBlanks 27 = .ok (.getfield 29, 3) := by decide +kernel
theorem dX0_skipBlanks_30 : decode cX0_skipBlanks 30 = .ok (.iconst 1, 1) := by decide +kernel
theorem dX0_skipBlanks_31 : decode cX0_skipBlanks 31 = .ok (.iadd, 1) := by decide +kernel
theorem dX0_skipBlanks_32 : decode cX0_skipBlanks 32 = .ok (.putfield 29, 3) := by decide +kernel
theorem dX0_skipBlanks_35 : decode cX0_skipBlanks 35 = .ok (.goto (-35), 3) := by decide +kernel
theorem dX0_skipBlanks_38 : decode cX0_skipBlanks 38 = .ok (.return_, 1) := by decide +kernel
theorem dX0_fail_0 : decode cX0_fail 0 = .ok (.aload_n 0, 1) := by decide +kernel
theorem dX0_fail_1 : decode cX0_fail 1 = .ok (.iload_n 1, 1) := by decide +kernel
theorem dX0_fail_2 : decode cX0_fail 2 = .ok (.putfield 22, 3) := by decide +kernel
theorem dX0_fail_5 : decode cX0_fail 5 = .ok (.aload_n 0, 1) := by decide +kernel
theorem dX0_fail_6 : decode cX0_fail 6 = .ok (.iload_n 2, 1) := by decide +kernel
theorem dX0_fail_7 : decode cX0_fail 7 = .ok (.putfield 26, 3) := by decide +kernel
theorem dX0_fail_10 : decode cX0_fail 10 = .ok (.iconst 0, 1) := by decide +kernel
theorem dX0_fail_11 : decode cX0_fail 11 = .ok (.ireturn, 1) := by decide +kernel
theorem dX0_isBlank_0 : decode cX0_isBlank 0 = .ok (.iload_n 0, 1) := by decide +kernel
theorem dX0_isBlank_1 : decode cX0_isBlank 1 = .ok (.bipush 10, 2) := by decide +kernel
theorem dX0_isBlank_3 : decode cX0_isBlank 3 = .ok (.if_icmp .eq 9, 3) := by decide +kernel
theorem dX0_isBlank_6 : decode cX0_isBlank 6 = .ok (.iload_n 0, 1) := by decide +kernel
theorem dX0_isBlank_7 : decode cX0_isBlank 7 = .ok (.bipush 32, 2) := by decide +kernel
theorem dX0_isBlank_9 : decode cX0_isBlank 9 = .ok (.if_icmp .ne 7, 3) := by decide +kernel
theorem dX0_isBlank_12 : decode cX0_isBlank 12 = .ok (.iconst 1, 1) := by decide +kernel
theorem dX0_isBlank_13 : decode cX0_isBlank 13 = .ok (.goto 4, 3) := by decide +kernel
theorem dX0_isBlank_16 : decode cX0_isBlank 16 = .ok (.iconst 0, 1) := by decide +kernel
theorem dX0_isBlank_17 : decode cX0_isBlank 17 = .ok (.ireturn, 1) := by decide +kernel
theorem dX0_isLetter_0 : decode cX0_isLetter 0 = .ok (.iload_n 0, 1) := by decide +kernel
theorem dX0_isLetter_1 : decode cX0_isLetter 1 = .ok (.bipush 97, 2) := by decide +kernel
theorem dX0_isLetter_3 : decode cX0_isLetter 3 = .ok (.if_icmp .lt 13, 3) := by decide +kernel
theorem dX0_isLetter_6 : decode cX0_isLetter 6 = .ok (.iload_n 0, 1) := by decide +kernel
theorem dX0_isLetter_7 : decode cX0_isLetter 7 = .ok (.bipush 122, 2) := by decide +kernel
theorem dX0_isLetter_9 : decode cX0_isLetter 9 = .ok (.if_icmp .gt 7, 3) := by decide +kernel
theorem dX0_isLetter_12 : decode cX0_isLetter 12 = .ok (.iconst 1, 1) := by decide +kernel
theorem dX0_isLetter_13 : decode cX0_isLetter 13 = .ok (.goto 4, 3) := by decide +kernel
theorem dX0_isLetter_16 : decode cX0_isLetter 16 = .ok (.iconst 0, 1) := by decide +kernel
theorem dX0_isLetter_17 : decode cX0_isLetter 17 = .ok (.ireturn, 1) := by decide +kernel
theorem dX0_isDigit_0 : decode cX0_isDigit 0 = .ok (.iload_n 0, 1) := by decide +kernel
theorem dX0_isDigit_1 : decode cX0_isDigit 1 = .ok (.bipush 48, 2) := by decide +kernel
theorem dX0_isDigit_3 : decode cX0_isDigit 3 = .ok (.if_icmp .lt 13, 3) := by decide +kernel
theorem dX0_isDigit_6 : decode cX0_isDigit 6 = .ok (.iload_n 0, 1) := by decide +kernel
theorem dX0_isDigit_7 : decode cX0_isDigit 7 = .ok (.bipush 57, 2) := by decide +kernel
theorem dX0_isDigit_9 : decode cX0_isDigit 9 = .ok (.if_icmp .gt 7, 3) := by decide +kernel
theorem dX0_isDigit_12 : decode cX0_isDigit 12 = .ok (.iconst 1, 1) := by decide +kernel
theorem dX0_isDigit_13 : decode cX0_isDigit 13 = .ok (.goto 4, 3) := by decide +kernel
theorem dX0_isDigit_16 : decode cX0_isDigit 16 = .ok (.iconst 0, 1) := by decide +kernel
theorem dX0_isDigit_17 : decode cX0_isDigit 17 = .ok (.ireturn, 1) := by decide +kernel
theorem dX1_init_0 : decode cX1_init 0 = .ok (.aload_n 0, 1) := by decide +kernel
theorem dX1_init_1 : decode cX1_init 1 = .ok (.invokespecial 9, 3) := by decide +kernel
theorem dX1_init_4 : decode cX1_init 4 = .ok (.aload_n 0, 1) := by decide +kernel
theorem dX1_init_5 : decode cX1_init 5 = .ok (.iconst 0, 1) := by decide +kernel
theorem dX1_init_6 : decode cX1_init 6 = .ok (.putfield 15, 3) := by decide +kernel
theorem dX1_init_9 : decode cX1_init 9 = .ok (.aload_n 0, 1) := by decide +kernel
theorem dX1_init_10 : decode cX1_init 10 = .ok (.bipush 40, 2) := by decide +kernel
theorem dX1_init_12 : decode cX1_init 12 = .ok (.newarray .long, 2) := by decide +kernel
theorem dX1_init_14 : decode cX1_init 14 = .ok (.putfield 21, 3) := by decide +kernel
theorem dX1_init_17 : decode cX1_init 17 = .ok (.aload_n 0, 1) := by decide +kernel
theorem dX1_init_18 : decode cX1_init 18 = .ok (.sipush 1024, 3) := by decide +kernel
theorem dX1_init_21 : decode cX1_init 21 = .ok (.newarray .int, 2) := by decide +kernel
theorem dX1_init_23 : decode cX1_init 23 = .ok (.putfield 25, 3) := by decide +kernel
theorem dX1_init_26 : decode cX1_init 26 = .ok (.aload_n 0, 1) := by decide +kernel
theorem dX1_init_27 : decode cX1_init 27 = .ok (.bipush 64, 2) := by decide +kernel
theorem dX1_init_29 : decode cX1_init 29 = .ok (.newarray .int, 2) := by decide +kernel
theorem dX1_init_31 : decode cX1_init 31 = .ok (.putfield 29, 3) := by decide +kernel
theorem dX1_init_34 : decode cX1_init 34 = .ok (.aload_n 0, 1) := by decide +kernel
theorem dX1_init_35 : decode cX1_init 35 = .ok (.sipush 3712, 3) := by decide +kernel
theorem dX1_init_38 : decode cX1_init 38 = .ok (.newarray .long, 2) := by decide +kernel
theorem dX1_init_40 : decode cX1_init 40 = .ok (.putfield 32, 3) := by decide +kernel
theorem dX1_init_43 : decode cX1_init 43 = .ok (.aload_n 0, 1) := by decide +kernel
theorem dX1_init_44 : decode cX1_init 44 = .ok (.iconst 0, 1) := by decide +kernel
theorem dX1_init_45 : decode cX1_init 45 = .ok (.putfield 35, 3) := by decide +kernel
theorem dX1_init_48 : decode cX1_init 48 = .ok (.aload_n 0, 1) := by decide +kernel
theorem dX1_init_49 : decode cX1_init 49 = .ok (.lconst 0, 1) := by decide +kernel
theorem dX1_init_50 : decode cX1_init 50 = .ok (.putfield 39, 3) := by decide +kernel
theorem dX1_init_53 : decode cX1_init 53 = .ok (.aload_n 0, 1) := by decide +kernel
theorem dX1_init_54 : decode cX1_init 54 = .ok (.iconst 0, 1) := by decide +kernel
theorem dX1_init_55 : decode cX1_init 55 = .ok (.putfield 43, 3) := by decide +kernel
theorem dX1_init_58 : decode cX1_init 58 = .ok (.aload_n 0, 1) := by decide +kernel
theorem dX1_init_59 : decode cX1_init 59 = .ok (.iconst 0, 1) := by decide +kernel
theorem dX1_init_60 : decode cX1_init 60 = .ok (.putfield 46, 3) := by decide +kernel
theorem dX1_init_63 : decode cX1_init 63 = .ok (.aload_n 0, 1) := by decide +kernel
theorem dX1_init_64 : decode cX1_init 64 = .ok (.iconst 0, 1) := by decide +kernel
theorem dX1_init_65 : decode cX1_init 65 = .ok (.putfield 49, 3) := by decide +kernel
theorem dX1_init_68 : decode cX1_init 68 = .ok (.aload_n 0, 1) := by decide +kernel
theorem dX1_init_69 : decode cX1_init 69 = .ok (.iconst 0, 1) := by decide +kernel
theorem dX1_init_70 : decode cX1_init 70 = .ok (.putfield 52, 3) := by decide +kernel
theorem dX1_init_73 : decode cX1_init 73 = .ok (.aload_n 0, 1) := by decide +kernel
theorem dX1_init_74 : decode cX1_init 74 = .ok (.bipush 8, 2) := by decide +kernel
theorem dX1_init_76 : decode cX1_init 76 = .ok (.newarray .int, 2) := by decide +kernel
theorem dX1_init_78 : decode cX1_init 78 = .ok (.putfield 55, 3) := by decide +kernel
theorem dX1_init_81 : decode cX1_init 81 = .ok (.aload_n 0, 1) := by decide +kernel
theorem dX1_init_82 : decode cX1_init 82 = .ok (.bipush 8, 2) := by decide +kernel
theorem dX1_init_84 : decode cX1_init 84 = .ok (.newarray .int, 2) := by decide +kernel
theorem dX1_init_86 : decode cX1_init 86 = .ok (.putfield 58, 3) := by decide +kernel
theorem dX1_init_89 : decode cX1_init 89 = .ok (.aload_n 0, 1) := by decide +kernel
theorem dX1_init_90 : decode cX1_init 90 = .ok (.bipush 7, 2) := by decide +kernel
theorem dX1_init_92 : decode cX1_init 92 = .ok (.newarray .int, 2) := by decide +kernel
theorem dX1_init_94 : decode cX1_init 94 = .ok (.putfield 61, 3) := by decide +kernel
theorem dX1_init_97 : decode cX1_init 97 = .ok (.return_, 1) := by decide +kernel
theorem dX1_worth_0 : decode cX1_worth 0 = .ok (.aload_n 0, 1) := by decide +kernel
theorem dX1_worth_1 : decode cX1_worth 1 = .ok (.getfield 39, 3) := by decide +kernel
theorem dX1_worth_4 : decode cX1_worth 4 = .ok (.lreturn, 1) := by decide +kernel
theorem dX1_tell_0 : decode cX1_tell 0 = .ok (.aload_n 0, 1) := by decide +kernel
theorem dX1_tell_1 : decode cX1_tell 1 = .ok (.getfield 35, 3) := by decide +kernel
theorem dX1_tell_4 : decode cX1_tell 4 = .ok (.ifCond .ne 5, 3) := by decide +kernel
theorem dX1_tell_7 : decode cX1_tell 7 = .ok (.iconst (-1), 1) := by decide +kernel
theorem dX1_tell_8 : decode cX1_tell 8 = .ok (.ireturn, 1) := by decide +kernel
theorem dX1_tell_9 : decode cX1_tell 9 = .ok (.iload_n 1, 1) := by decide +kernel
theorem dX1_tell_10 : decode cX1_tell 10 = .ok (.tableswitch 100 0 4 #[34, 57, 85, 90, 95], 34) := by decide +kernel
theorem dX1_tell_44 : decode cX1_tell 44 = .ok (.iload_n 2, 1) := by decide +kernel
theorem dX1_tell_45 : decode cX1_tell 45 = .ok (.ifCond .lt 20, 3) := by decide +kernel
theorem dX1_tell_48 : decode cX1_tell 48 = .ok (.iload_n 2, 1) := by decide +kernel
theorem dX1_tell_49 : decode cX1_tell 49 = .ok (.aload_n 0, 1) := by decide +kernel
theorem dX1_tell_50 : decode cX1_tell 50 = .ok (.getfield 52, 3) := by decide +kernel
theorem dX1_tell_53 : decode cX1_tell 53 = .ok (.if_icmp .ge 12, 3) := by decide +kernel
theorem dX1_tell_56 : decode cX1_tell 56 = .ok (.aload_n 0, 1) := by decide +kernel
theorem dX1_tell_57 : decode cX1_tell 57 = .ok (.getfield 61, 3) := by decide +kernel
theorem dX1_tell_60 : decode cX1_tell 60 = .ok (.iload_n 2, 1) := by decide +kernel
theorem dX1_tell_61 : decode cX1_tell 61 = .ok (.iaload, 1) := by decide +kernel
theorem dX1_tell_62 : decode cX1_tell 62 = .ok (.goto 4, 3) := by decide +kernel
theorem dX1_tell_65 : decode cX1_tell 65 = .ok (.iconst (-1), 1) := by decide +kernel
theorem dX1_tell_66 : decode cX1_tell 66 = .ok (.ireturn, 1) := by decide +kernel
theorem dX1_tell_67 : decode cX1_tell 67 = .ok (.iload_n 2, 1) := by decide +kernel
theorem dX1_tell_68 : decode cX1_tell 68 = .ok (.ifCond .lt 25, 3) := by decide +kernel
theorem dX1_tell_71 : decode cX1_tell 71 = .ok (.iload_n 2, 1) := by decide +kernel
theorem dX1_tell_72 : decode cX1_tell 72 = .ok (.aload_n 0, 1) := by decide +kernel
theorem dX1_tell_73 : decode cX1_tell 73 = .ok (.getfield 52, 3) := by decide +kernel
theorem dX1_tell_76 : decode cX1_tell 76 = .ok (.if_icmp .ge 17, 3) := by decide +kernel
theorem dX1_tell_79 : decode cX1_tell 79 = .ok (.aload_n 0, 1) := by decide +kernel
theorem dX1_tell_80 : decode cX1_tell 80 = .ok (.getfield 55, 3) := by decide +kernel
theorem dX1_tell_83 : decode cX1_tell 83 = .ok (.aload_n 0, 1) := by decide +kernel
theorem dX1_tell_84 : decode cX1_tell 84 = .ok (.getfield 61, 3) := by decide +kernel
theorem dX1_tell_87 : decode cX1_tell 87 = .ok (.iload_n 2, 1) := by decide +kernel
theorem dX1_tell_88 : decode cX1_tell 88 = .ok (.iaload, 1) := by decide +kernel
theorem dX1_tell_89 : decode cX1_tell 89 = .ok (.iaload, 1) := by decide +kernel
theorem dX1_tell_90 : decode cX1_tell 90 = .ok (.goto 4, 3) := by decide +kernel
theorem dX1_tell_93 : decode cX1_tell 93 = .ok (.iconst (-1), 1) := by decide +kernel
theorem dX1_tell_94 : decode cX1_tell 94 = .ok (.ireturn, 1) := by decide +kernel
theorem dX1_tell_95 : decode cX1_tell 95 = .ok (.aload_n 0, 1) := by decide +kernel
theorem dX1_tell_96 : decode cX1_tell 96 = .ok (.getfield 46, 3) := by decide +kernel
theorem dX1_tell_99 : decode cX1_tell 99 = .ok (.ireturn, 1) := by decide +kernel
theorem dX1_tell_100 : decode cX1_tell 100 = .ok (.aload_n 0, 1) := by decide +kernel
theorem dX1_tell_101 : decode cX1_tell 101 = .ok (.getfield 49, 3) := by decide +kernel
theorem dX1_tell_104 : decode cX1_tell 104 = .ok (.ireturn, 1) := by decide +kernel
theorem dX1_tell_105 : decode cX1_tell 105 = .ok (.aload_n 0, 1) := by decide +kernel
theorem dX1_tell_106 : decode cX1_tell 106 = .ok (.getfield 52, 3) := by decide +kernel
theorem dX1_tell_109 : decode cX1_tell 109 = .ok (.ireturn, 1) := by decide +kernel
theorem dX1_tell_110 : decode cX1_tell 110 = .ok (.iconst (-1), 1) := by decide +kernel
theorem dX1_tell_111 : decode cX1_tell 111 = .ok (.ireturn, 1) := by decide +kernel
set_option maxRecDepth 20000 in
theorem ggX1_admit_X4_size : GoodIn wsX1_admit wsX4_size := goodIn_r _ [7, 8, 68, 69, 70, 71, 72, 73, 74] (by decide +kernel) (by decide +kernel)
set_option maxRecDepth 20000 in
theorem gX1_admit_X4_size : GoodIn wsX1_admit (wsV RX1 64 RX4 yX4_size wsX4_size) := goodIn_app (goodIn_of _ (by decide +kernel)) ggX1_admit_X4_size
set_option maxRecDepth 20000 in
theorem ggX1_admit_X4_state : GoodIn wsX1_admit wsX4_state := goodIn_r _ [12, 13, 14, 15, 16, 6, 17, 18, 68, 69, 70, 71, 72, 73, 74] (by decide +kernel) (by decide +kernel)
set_option maxRecDepth 20000 in
theorem gX1_admit_X4_state : GoodIn wsX1_admit (wsV RX1 68 RX4 yX4_state wsX4_state) := goodIn_app (goodIn_of _ (by decide +kernel)) ggX1_admit_X4_state
set_option maxRecDepth 20000 in
theorem ggX1_admit_X1_bit : GoodIn wsX1_admit wsX1_bit := goodIn_r _ [22] (by decide +kernel) (by decide +kernel)
set_option maxRecDepth 20000 in
theorem gX1_admit_X1_bit : GoodIn wsX1_admit (va_wsS RX1 72 yX1_bit wsX1_bit) := goodIn_app (goodIn_of _ (by decide +kernel)) ggX1_admit_X1_bit
set_option maxRecDepth 20000 in
theorem ggX1_admit_X4_rockOf : GoodIn wsX1_admit wsX4_rockOf := goodIn_r _ [26, 27, 68, 69, 70, 71, 72, 73, 74] (by decide +kernel) (by decide +kernel)
set_option maxRecDepth 20000 in
theorem gX1_admit_X4_rockOf : GoodIn wsX1_admit (wsV RX1 76 RX4 yX4_rockOf wsX4_rockOf) := goodIn_app (goodIn_of _ (by decide +kernel)) ggX1_admit_X4_rockOf
set_option maxRecDepth 20000 in
theorem ggX1_admit_X2_hopeOn : GoodIn wsX1_admit wsX2_hopeOn := goodIn_r _ [32, 33, 34, 35, 31, 36, 37, 38, 39, 40, 41, 42, 43, 44, 45, 46, 47, 48, 75, 76, 77, 78, 79, 80] (by decide +kernel) (by decide +kernel)
set_option maxRecDepth 20000 in
theorem gX1_admit_X2_hopeOn : GoodIn wsX1_admit (wsV RX1 79 RX2 yX2_hopeOn wsX2_hopeOn) := goodIn_app (goodIn_of _ (by decide +kernel)) ggX1_admit_X2_hopeOn
set_option maxRecDepth 20000 in
theorem ggX1_admit_X4_peopleOf : GoodIn wsX1_admit wsX4_peopleOf := goodIn_r _ [52, 53, 68, 69, 70, 71, 72, 73, 74] (by decide +kernel) (by decide +kernel)
set_option maxRecDepth 20000 in
theorem gX1_admit_X4_peopleOf : GoodIn wsX1_admit (wsV RX1 82 RX4 yX4_peopleOf wsX4_peopleOf) := goodIn_app (goodIn_of _ (by decide +kernel)) ggX1_admit_X4_peopleOf
theorem dX1_admit_0 : decode cX1_admit 0 = .ok (.aload_n 0, 1) := by decide +kernel
theorem dX1_admit_1 : decode cX1_admit 1 = .ok (.iconst 0, 1) := by decide +kernel
theorem dX1_admit_2 : decode cX1_admit 2 = .ok (.putfield 15, 3) := by decide +kernel
theorem dX1_admit_5 : decode cX1_admit 5 = .ok (.iconst 1, 1) := by decide +kernel
theorem dX1_admit_6 : decode cX1_admit 6 = .ok (.istore 4, 2) := by decide +kernel
theorem dX1_admit_8 : decode cX1_admit 8 = .ok (.iload 4, 2) := by decide +kernel
theorem dX1_admit_10 : decode cX1_admit 10 = .ok (.aload_n 1, 1) := by decide +kernel
theorem dX1_admit_11 : decode cX1_admit 11 = .ok (.invokevirtual 64, 3) := by decide +kernel
theorem dX1_admit_14 : decode cX1_admit 14 = .ok (.if_icmp .gt 85, 3) := by decide +kernel
theorem dX1_admit_17 : decode cX1_admit 17 = .ok (.aload_n 1, 1) := by decide +kernel
theorem dX1_admit_18 : decode cX1_admit 18 = .ok (.iload 4, 2) := by decide +kernel
theorem dX1_admit_20 : decode cX1_admit 20 = .ok (.iload_n 3, 1) := by decide +kernel
theorem dX1_admit_21 : decode cX1_admit 21 = .ok (.invokevirtual 68, 3) := by decide +kernel
theorem dX1_admit_24 : decode cX1_admit 24 = .ok (.ifCond .ne 69, 3) := by decide +kernel
theorem dX1_admit_27 : decode cX1_admit 27 = .ok (.aload_n 0, 1) := by decide +kernel
theorem dX1_admit_28 : decode cX1_admit 28 = .ok (.dup, 1) := by decide +kernel
theorem dX1_admit_29 : decode cX1_admit 29 = .ok (.getfield 15, 3) := by decide +kernel
theorem dX1_admit_32 : decode cX1_admit 32 = .ok (.iload 4, 2) := by decide +kernel
theorem dX1_admit_34 : decode cX1_admit 34 = .ok (.invokestatic 72, 3) := by decide +kernel
theorem dX1_admit_37 : decode cX1_admit 37 = .ok (.ior, 1) := by decide +kernel
theorem dX1_admit_38 : decode cX1_admit 38 = .ok (.putfield 15, 3) := by decide +kernel
theorem dX1_admit_41 : decode cX1_admit 41 = .ok (.iconst 1, 1) := by decide +kernel
theorem dX1_admit_42 : decode cX1_admit 42 = .ok (.istore 5, 2) := by decide +kernel
theorem dX1_admit_44 : decode cX1_admit 44 = .ok (.iload 5, 2) := by decide +kernel
theorem dX1_admit_46 : decode cX1_admit 46 = .ok (.iconst 4, 1) := by decide +kernel
theorem dX1_admit_47 : decode cX1_admit 47 = .ok (.if_icmp .gt 46, 3) := by decide +kernel
theorem dX1_admit_50 : decode cX1_admit 50 = .ok (.aload_n 2, 1) := by decide +kernel
theorem dX1_admit_51 : decode cX1_admit 51 = .ok (.aload_n 1, 1) := by decide +kernel
theorem dX1_admit_52 : decode cX1_admit 52 = .ok (.iload 4, 2) := by decide +kernel
theorem dX1_admit_54 : decode cX1_admit 54 = .ok (.invokevirtual 76, 3) := by decide +kernel
theorem dX1_admit_57 : decode cX1_admit 57 = .ok (.iload 5, 2) := by decide +kernel
theorem dX1_admit_59 : decode cX1_admit 59 = .ok (.invokevirtual 79, 3) := by decide +kernel
theorem dX1_admit_62 : decode cX1_admit 62 = .ok (.i2l, 1) := by decide +kernel
theorem dX1_admit_63 : decode cX1_admit 63 = .ok (.lstore 6, 2) := by decide +kernel
theorem dX1_admit_65 : decode cX1_admit 65 = .ok (.aload_n 0, 1) := by decide +kernel
theorem dX1_admit_66 : decode cX1_admit 66 = .ok (.getfield 21, 3) := by decide +kernel
theorem dX1_admit_69 : decode cX1_admit 69 = .ok (.iload 4, 2) := by decide +kernel
theorem dX1_admit_71 : decode cX1_admit 71 = .ok (.iconst 5, 1) := by decide +kernel
theorem dX1_admit_72 : decode cX1_admit 72 = .ok (.imul, 1) := by decide +kernel
theorem dX1_admit_73 : decode cX1_admit 73 = .ok (.iload 5, 2) := by decide +kernel
theorem dX1_admit_75 : decode cX1_admit 75 = .ok (.iadd, 1) := by decide +kernel
theorem dX1_admit_76 : decode cX1_admit 76 = .ok (.aload_n 1, 1) := by decide +kernel
theorem dX1_admit_77 : decode cX1_admit 77 = .ok (.iload 4, 2) := by decide +kernel
theorem dX1_admit_79 : decode cX1_admit 79 = .ok (.invokevirtual 82, 3) := by decide +kernel
theorem dX1_admit_82 : decode cX1_admit 82 = .ok (.i2l, 1) := by decide +kernel
theorem dX1_admit_83 : decode cX1_admit 83 = .ok (.lload 6, 2) := by decide +kernel
theorem dX1_admit_85 : decode cX1_admit 85 = .ok (.lmul, 1) := by decide +kernel
theorem dX1_admit_86 : decode cX1_admit 86 = .ok (.lastore, 1) := by decide +kernel
theorem dX1_admit_87 : decode cX1_admit 87 = .ok (.iinc 5 1, 3) := by decide +kernel
theorem dX1_admit_90 : decode cX1_admit 90 = .ok (.goto (-46), 3) := by decide +kernel
theorem dX1_admit_93 : decode cX1_admit 93 = .ok (.iinc 4 1, 3) := by decide +kernel
theorem dX1_admit_96 : decode cX1_admit 96 = .ok (.goto (-88), 3) := by decide +kernel
theorem dX1_admit_99 : decode cX1_admit 99 = .ok (.return_, 1) := by decide +kernel
set_option maxRecDepth 20000 in
theorem ggX1_measureWays_X1_stepDays : GoodIn wsX1_measureWays wsX1_stepDays := goodIn_r _ [7, 8, 9, 10, 11, 12, 13, 14, 15, 16, 17, 55] (by decide +kernel) (by decide +kernel)
set_option maxRecDepth 20000 in
theorem gX1_measureWays_X1_stepDays : GoodIn wsX1_measureWays (va_wsS RX1 85 yX1_stepDays wsX1_stepDays) := goodIn_app (goodIn_of _ (by decide +kernel)) ggX1_measureWays_X1_stepDays
set_option maxRecDepth 20000 in
theorem ggX1_measureWays_X1_isAdmitted : GoodIn wsX1_measureWays wsX1_isAdmitted := goodIn_r _ [21, 3, 41, 42, 43, 44, 45, 46, 47, 48, 49, 50, 51, 52, 53, 54] (by decide +kernel) (by decide +kernel)
set_option maxRecDepth 20000 in
theorem gX1_measureWays_X1_isAdmitted : GoodIn wsX1_measureWays (wsV RX1 89 RX1 yX1_isAdmitted wsX1_isAdmitted) := goodIn_app (goodIn_of _ (by decide +kernel)) ggX1_measureWays_X1_isAdmitted
set_option maxRecDepth 20000 in
theorem ggX1_measureWays_X1_measureSet : GoodIn wsX1_measureWays wsX1_measureSet := goodIn_r _ [25, 2, 26, 27, 28, 6, 29, 30, 31, 32, 33, 34, 35, 36, 37, 38, 39, 40, 1, 41, 42, 43, 44, 45, 46, 47, 48, 49, 50, 51, 52, 53, 54] (by decide +kernel) (by decide +kernel)
set_option maxRecDepth 20000 in
theorem gX1_measureWays_X1_measureSet : GoodIn wsX1_measureWays (wsV RX1 93 RX1 yX1_measureSet wsX1_measureSet) := goodIn_app (goodIn_of _ (by decide +kernel)) ggX1_measureWays_X1_measureSet
theorem dX1_measureWays_0 : decode cX1_measureWays 0 = .ok (.iconst 0, 1) := by decide +kernel
theorem dX1_measureWays_1 : decode cX1_measureWays 1 = .ok (.istore_n 3, 1) := by decide +kernel
theorem dX1_measureWays_2 : decode cX1_measureWays 2 = .ok (.iload_n 3, 1) := by decide +kernel
theorem dX1_measureWays_3 : decode cX1_measureWays 3 = .ok (.iload_n 2, 1) := by decide +kernel
theorem dX1_measureWays_4 : decode cX1_measureWays 4 = .ok (.if_icmp .gt 50, 3) := by decide +kernel
theorem dX1_measureWays_7 : decode cX1_measureWays 7 = .ok (.iconst 0, 1) := by decide +kernel
theorem dX1_measureWays_8 : decode cX1_measureWays 8 = .ok (.istore 4, 2) := by decide +kernel
theorem dX1_measureWays_10 : decode cX1_measureWays 10 = .ok (.iload 4, 2) := by decide +kernel
theorem dX1_measureWays_12 : decode cX1_measureWays 12 = .ok (.iload_n 2, 1) := by decide +kernel
theorem dX1_measureWays_13 : decode cX1_measureWays 13 = .ok (.if_icmp .gt 28, 3) := by decide +kernel
theorem dX1_measureWays_16 : decode cX1_measureWays 16 = .ok (.aload_n 0, 1) := by decide +kernel
theorem dX1_measureWays_17 : decode cX1_measureWays 17 = .ok (.getfield 29, 3) := by decide +kernel
theorem dX1_measureWays_20 : decode cX1_measureWays 20 = .ok (.iload_n 3, 1) := by decide +kernel
theorem dX1_measureWays_21 : decode cX1_measureWays 21 = .ok (.bipush 8, 2) := by decide +kernel
theorem dX1_measureWays_23 : decode cX1_measureWays 23 = .ok (.imul, 1) := by decide +kernel
theorem dX1_measureWays_24 : decode cX1_measureWays 24 = .ok (.iload 4, 2) := by decide +kernel
theorem dX1_measureWays_26 : decode cX1_measureWays 26 = .ok (.iadd, 1) := by decide +kernel
theorem dX1_measureWays_27 : decode cX1_measureWays 27 = .ok (.aload_n 1, 1) := by decide +kernel
theorem dX1_measureWays_28 : decode cX1_measureWays 28 = .ok (.iload_n 3, 1) := by decide +kernel
theorem dX1_measureWays_29 : decode cX1_measureWays 29 = .ok (.iload 4, 2) := by decide +kernel
theorem dX1_measureWays_31 : decode cX1_measureWays 31 = .ok (.invokestatic 85, 3) := by decide +kernel
theorem dX1_measureWays_34 : decode cX1_measureWays 34 = .ok (.iastore, 1) := by decide +kernel
