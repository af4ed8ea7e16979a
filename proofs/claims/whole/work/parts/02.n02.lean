theorem dX1_measureWays_35 : decode cX1_measureWays 35 = .ok (.iinc 4 1, 3) := by decide +kernel
theorem dX1_measureWays_38 : decode cX1_measureWays 38 = .ok (.goto (-28), 3) := by decide +kernel
theorem dX1_measureWays_41 : decode cX1_measureWays 41 = .ok (.aload_n 0, 1) := by decide +kernel
theorem dX1_measureWays_42 : decode cX1_measureWays 42 = .ok (.getfield 25, 3) := by decide +kernel
theorem dX1_measureWays_45 : decode cX1_measureWays 45 = .ok (.iload_n 3, 1) := by decide +kernel
theorem dX1_measureWays_46 : decode cX1_measureWays 46 = .ok (.iconst 0, 1) := by decide +kernel
theorem dX1_measureWays_47 : decode cX1_measureWays 47 = .ok (.iastore, 1) := by decide +kernel
theorem dX1_measureWays_48 : decode cX1_measureWays 48 = .ok (.iinc 3 1, 3) := by decide +kernel
theorem dX1_measureWays_51 : decode cX1_measureWays 51 = .ok (.goto (-49), 3) := by decide +kernel
theorem dX1_measureWays_54 : decode cX1_measureWays 54 = .ok (.iconst 1, 1) := by decide +kernel
theorem dX1_measureWays_55 : decode cX1_measureWays 55 = .ok (.istore_n 3, 1) := by decide +kernel
theorem dX1_measureWays_56 : decode cX1_measureWays 56 = .ok (.iload_n 3, 1) := by decide +kernel
theorem dX1_measureWays_57 : decode cX1_measureWays 57 = .ok (.aload_n 0, 1) := by decide +kernel
theorem dX1_measureWays_58 : decode cX1_measureWays 58 = .ok (.getfield 15, 3) := by decide +kernel
theorem dX1_measureWays_61 : decode cX1_measureWays 61 = .ok (.if_icmp .gt 23, 3) := by decide +kernel
theorem dX1_measureWays_64 : decode cX1_measureWays 64 = .ok (.aload_n 0, 1) := by decide +kernel
theorem dX1_measureWays_65 : decode cX1_measureWays 65 = .ok (.iload_n 3, 1) := by decide +kernel
theorem dX1_measureWays_66 : decode cX1_measureWays 66 = .ok (.invokevirtual 89, 3) := by decide +kernel
theorem dX1_measureWays_69 : decode cX1_measureWays 69 = .ok (.ifCond .eq 9, 3) := by decide +kernel
theorem dX1_measureWays_72 : decode cX1_measureWays 72 = .ok (.aload_n 0, 1) := by decide +kernel
theorem dX1_measureWays_73 : decode cX1_measureWays 73 = .ok (.iload_n 3, 1) := by decide +kernel
theorem dX1_measureWays_74 : decode cX1_measureWays 74 = .ok (.iload_n 2, 1) := by decide +kernel
theorem dX1_measureWays_75 : decode cX1_measureWays 75 = .ok (.invokevirtual 93, 3) := by decide +kernel
theorem dX1_measureWays_78 : decode cX1_measureWays 78 = .ok (.iinc 3 1, 3) := by decide +kernel
theorem dX1_measureWays_81 : decode cX1_measureWays 81 = .ok (.goto (-25), 3) := by decide +kernel
theorem dX1_measureWays_84 : decode cX1_measureWays 84 = .ok (.return_, 1) := by decide +kernel
set_option maxRecDepth 20000 in
theorem ggX1_measureSet_X1_shortest : GoodIn wsX1_measureSet wsX1_shortest := goodIn_r _ [6, 7, 8, 9, 10, 11, 12, 5, 13, 14, 15, 16, 17, 18, 1, 19, 20, 21, 22, 23, 24, 25, 26, 27, 28, 29, 30, 31, 32] (by decide +kernel) (by decide +kernel)
set_option maxRecDepth 20000 in
theorem gX1_measureSet_X1_shortest : GoodIn wsX1_measureSet (wsV RX1 97 RX1 yX1_shortest wsX1_shortest) := goodIn_app (goodIn_of _ (by decide +kernel)) ggX1_measureSet_X1_shortest
theorem dX1_measureSet_0 : decode cX1_measureSet 0 = .ok (.iconst 0, 1) := by decide +kernel
theorem dX1_measureSet_1 : decode cX1_measureSet 1 = .ok (.istore_n 3, 1) := by decide +kernel
theorem dX1_measureSet_2 : decode cX1_measureSet 2 = .ok (.iload_n 3, 1) := by decide +kernel
theorem dX1_measureSet_3 : decode cX1_measureSet 3 = .ok (.iload_n 2, 1) := by decide +kernel
theorem dX1_measureSet_4 : decode cX1_measureSet 4 = .ok (.if_icmp .gt 27, 3) := by decide +kernel
theorem dX1_measureSet_7 : decode cX1_measureSet 7 = .ok (.aload_n 0, 1) := by decide +kernel
theorem dX1_measureSet_8 : decode cX1_measureSet 8 = .ok (.getfield 25, 3) := by decide +kernel
theorem dX1_measureSet_11 : decode cX1_measureSet 11 = .ok (.iload_n 1, 1) := by decide +kernel
theorem dX1_measureSet_12 : decode cX1_measureSet 12 = .ok (.bipush 8, 2) := by decide +kernel
theorem dX1_measureSet_14 : decode cX1_measureSet 14 = .ok (.imul, 1) := by decide +kernel
theorem dX1_measureSet_15 : decode cX1_measureSet 15 = .ok (.iload_n 3, 1) := by decide +kernel
theorem dX1_measureSet_16 : decode cX1_measureSet 16 = .ok (.iadd, 1) := by decide +kernel
theorem dX1_measureSet_17 : decode cX1_measureSet 17 = .ok (.aload_n 0, 1) := by decide +kernel
theorem dX1_measureSet_18 : decode cX1_measureSet 18 = .ok (.iload_n 1, 1) := by decide +kernel
theorem dX1_measureSet_19 : decode cX1_measureSet 19 = .ok (.iload_n 3, 1) := by decide +kernel
theorem dX1_measureSet_20 : decode cX1_measureSet 20 = .ok (.iload_n 2, 1) := by decide +kernel
theorem dX1_measureSet_21 : decode cX1_measureSet 21 = .ok (.invokevirtual 97, 3) := by decide +kernel
theorem dX1_measureSet_24 : decode cX1_measureSet 24 = .ok (.iastore, 1) := by decide +kernel
theorem dX1_measureSet_25 : decode cX1_measureSet 25 = .ok (.iinc 3 1, 3) := by decide +kernel
theorem dX1_measureSet_28 : decode cX1_measureSet 28 = .ok (.goto (-26), 3) := by decide +kernel
theorem dX1_measureSet_31 : decode cX1_measureSet 31 = .ok (.return_, 1) := by decide +kernel
set_option maxRecDepth 20000 in
theorem ggX1_stepDays_X5_joins : GoodIn wsX1_stepDays wsX5_joins := goodIn_r _ [5, 6, 11] (by decide +kernel) (by decide +kernel)
set_option maxRecDepth 20000 in
theorem gX1_stepDays_X5_joins : GoodIn wsX1_stepDays (wsV RX1 101 RX5 yX5_joins wsX5_joins) := goodIn_app (goodIn_of _ (by decide +kernel)) ggX1_stepDays_X5_joins
set_option maxRecDepth 20000 in
theorem ggX1_stepDays_X5_days : GoodIn wsX1_stepDays wsX5_days := goodIn_r _ [10, 6, 11] (by decide +kernel) (by decide +kernel)
set_option maxRecDepth 20000 in
theorem gX1_stepDays_X5_days : GoodIn wsX1_stepDays (wsV RX1 105 RX5 yX5_days wsX5_days) := goodIn_app (goodIn_of _ (by decide +kernel)) ggX1_stepDays_X5_days
theorem dX1_stepDays_0 : decode cX1_stepDays 0 = .ok (.iload_n 1, 1) := by decide +kernel
theorem dX1_stepDays_1 : decode cX1_stepDays 1 = .ok (.iload_n 2, 1) := by decide +kernel
theorem dX1_stepDays_2 : decode cX1_stepDays 2 = .ok (.if_icmp .ne 5, 3) := by decide +kernel
theorem dX1_stepDays_5 : decode cX1_stepDays 5 = .ok (.iconst 0, 1) := by decide +kernel
theorem dX1_stepDays_6 : decode cX1_stepDays 6 = .ok (.ireturn, 1) := by decide +kernel
theorem dX1_stepDays_7 : decode cX1_stepDays 7 = .ok (.aload_n 0, 1) := by decide +kernel
theorem dX1_stepDays_8 : decode cX1_stepDays 8 = .ok (.iload_n 1, 1) := by decide +kernel
theorem dX1_stepDays_9 : decode cX1_stepDays 9 = .ok (.iload_n 2, 1) := by decide +kernel
theorem dX1_stepDays_10 : decode cX1_stepDays 10 = .ok (.invokevirtual 101, 3) := by decide +kernel
theorem dX1_stepDays_13 : decode cX1_stepDays 13 = .ok (.ifCond .eq 12, 3) := by decide +kernel
theorem dX1_stepDays_16 : decode cX1_stepDays 16 = .ok (.aload_n 0, 1) := by decide +kernel
theorem dX1_stepDays_17 : decode cX1_stepDays 17 = .ok (.iload_n 1, 1) := by decide +kernel
theorem dX1_stepDays_18 : decode cX1_stepDays 18 = .ok (.iload_n 2, 1) := by decide +kernel
theorem dX1_stepDays_19 : decode cX1_stepDays 19 = .ok (.invokevirtual 105, 3) := by decide +kernel
theorem dX1_stepDays_22 : decode cX1_stepDays 22 = .ok (.goto 6, 3) := by decide +kernel
theorem dX1_stepDays_25 : decode cX1_stepDays 25 = .ok (.sipush 1000, 3) := by decide +kernel
theorem dX1_stepDays_28 : decode cX1_stepDays 28 = .ok (.ireturn, 1) := by decide +kernel
set_option maxRecDepth 20000 in
theorem ggX1_shortest_X1_bit : GoodIn wsX1_shortest wsX1_bit := goodIn_r _ [8] (by decide +kernel) (by decide +kernel)
set_option maxRecDepth 20000 in
theorem gX1_shortest_X1_bit : GoodIn wsX1_shortest (va_wsS RX1 72 yX1_bit wsX1_bit) := goodIn_app (goodIn_of _ (by decide +kernel)) ggX1_shortest_X1_bit
set_option maxRecDepth 20000 in
theorem ggX1_shortest_X1_roadBy : GoodIn wsX1_shortest wsX1_roadBy := goodIn_r _ [12, 13, 14, 5, 6, 7, 8, 15, 16, 17, 18, 19, 20, 21, 22, 23, 24, 25, 26, 27, 28] (by decide +kernel) (by decide +kernel)
set_option maxRecDepth 20000 in
theorem gX1_shortest_X1_roadBy : GoodIn wsX1_shortest (wsV RX1 107 RX1 yX1_roadBy wsX1_roadBy) := goodIn_app (goodIn_of _ (by decide +kernel)) ggX1_shortest_X1_roadBy
theorem dX1_shortest_0 : decode cX1_shortest 0 = .ok (.sipush 1000, 3) := by decide +kernel
theorem dX1_shortest_3 : decode cX1_shortest 3 = .ok (.istore 4, 2) := by decide +kernel
theorem dX1_shortest_5 : decode cX1_shortest 5 = .ok (.iconst 1, 1) := by decide +kernel
theorem dX1_shortest_6 : decode cX1_shortest 6 = .ok (.istore 5, 2) := by decide +kernel
theorem dX1_shortest_8 : decode cX1_shortest 8 = .ok (.iload 5, 2) := by decide +kernel
theorem dX1_shortest_10 : decode cX1_shortest 10 = .ok (.iload_n 3, 1) := by decide +kernel
theorem dX1_shortest_11 : decode cX1_shortest 11 = .ok (.if_icmp .gt 34, 3) := by decide +kernel
theorem dX1_shortest_14 : decode cX1_shortest 14 = .ok (.iload_n 1, 1) := by decide +kernel
theorem dX1_shortest_15 : decode cX1_shortest 15 = .ok (.iload 5, 2) := by decide +kernel
theorem dX1_shortest_17 : decode cX1_shortest 17 = .ok (.invokestatic 72, 3) := by decide +kernel
theorem dX1_shortest_20 : decode cX1_shortest 20 = .ok (.iand, 1) := by decide +kernel
theorem dX1_shortest_21 : decode cX1_shortest 21 = .ok (.ifCond .eq 18, 3) := by decide +kernel
theorem dX1_shortest_24 : decode cX1_shortest 24 = .ok (.iload 4, 2) := by decide +kernel
theorem dX1_shortest_26 : decode cX1_shortest 26 = .ok (.aload_n 0, 1) := by decide +kernel
theorem dX1_shortest_27 : decode cX1_shortest 27 = .ok (.iload_n 1, 1) := by decide +kernel
theorem dX1_shortest_28 : decode cX1_shortest 28 = .ok (.iload_n 2, 1) := by decide +kernel
theorem dX1_shortest_29 : decode cX1_shortest 29 = .ok (.iload 5, 2) := by decide +kernel
theorem dX1_shortest_31 : decode cX1_shortest 31 = .ok (.invokevirtual 107, 3) := by decide +kernel
theorem dX1_shortest_34 : decode cX1_shortest 34 = .ok (.invokestatic 110, 3) := by decide +kernel
theorem dX1_shortest_37 : decode cX1_shortest 37 = .ok (.istore 4, 2) := by decide +kernel
theorem dX1_shortest_39 : decode cX1_shortest 39 = .ok (.iinc 5 1, 3) := by decide +kernel
theorem dX1_shortest_42 : decode cX1_shortest 42 = .ok (.goto (-34), 3) := by decide +kernel
theorem dX1_shortest_45 : decode cX1_shortest 45 = .ok (.iload 4, 2) := by decide +kernel
theorem dX1_shortest_47 : decode cX1_shortest 47 = .ok (.ireturn, 1) := by decide +kernel
set_option maxRecDepth 20000 in
theorem ggX1_roadBy_X1_bit : GoodIn wsX1_roadBy wsX1_bit := goodIn_r _ [6] (by decide +kernel) (by decide +kernel)
set_option maxRecDepth 20000 in
theorem gX1_roadBy_X1_bit : GoodIn wsX1_roadBy (va_wsS RX1 72 yX1_bit wsX1_bit) := goodIn_app (goodIn_of _ (by decide +kernel)) ggX1_roadBy_X1_bit
theorem dX1_roadBy_0 : decode cX1_roadBy 0 = .ok (.aload_n 0, 1) := by decide +kernel
theorem dX1_roadBy_1 : decode cX1_roadBy 1 = .ok (.getfield 29, 3) := by decide +kernel
theorem dX1_roadBy_4 : decode cX1_roadBy 4 = .ok (.iload_n 2, 1) := by decide +kernel
theorem dX1_roadBy_5 : decode cX1_roadBy 5 = .ok (.bipush 8, 2) := by decide +kernel
theorem dX1_roadBy_7 : decode cX1_roadBy 7 = .ok (.imul, 1) := by decide +kernel
theorem dX1_roadBy_8 : decode cX1_roadBy 8 = .ok (.iload_n 3, 1) := by decide +kernel
theorem dX1_roadBy_9 : decode cX1_roadBy 9 = .ok (.iadd, 1) := by decide +kernel
theorem dX1_roadBy_10 : decode cX1_roadBy 10 = .ok (.iaload, 1) := by decide +kernel
theorem dX1_roadBy_11 : decode cX1_roadBy 11 = .ok (.aload_n 0, 1) := by decide +kernel
theorem dX1_roadBy_12 : decode cX1_roadBy 12 = .ok (.getfield 25, 3) := by decide +kernel
theorem dX1_roadBy_15 : decode cX1_roadBy 15 = .ok (.iload_n 1, 1) := by decide +kernel
theorem dX1_roadBy_16 : decode cX1_roadBy 16 = .ok (.iload_n 3, 1) := by decide +kernel
theorem dX1_roadBy_17 : decode cX1_roadBy 17 = .ok (.invokestatic 72, 3) := by decide +kernel
theorem dX1_roadBy_20 : decode cX1_roadBy 20 = .ok (.iconst (-1), 1) := by decide +kernel
theorem dX1_roadBy_21 : decode cX1_roadBy 21 = .ok (.ixor, 1) := by decide +kernel
theorem dX1_roadBy_22 : decode cX1_roadBy 22 = .ok (.iand, 1) := by decide +kernel
theorem dX1_roadBy_23 : decode cX1_roadBy 23 = .ok (.bipush 8, 2) := by decide +kernel
theorem dX1_roadBy_25 : decode cX1_roadBy 25 = .ok (.imul, 1) := by decide +kernel
theorem dX1_roadBy_26 : decode cX1_roadBy 26 = .ok (.iload_n 3, 1) := by decide +kernel
theorem dX1_roadBy_27 : decode cX1_roadBy 27 = .ok (.iadd, 1) := by decide +kernel
theorem dX1_roadBy_28 : decode cX1_roadBy 28 = .ok (.iaload, 1) := by decide +kernel
theorem dX1_roadBy_29 : decode cX1_roadBy 29 = .ok (.iadd, 1) := by decide +kernel
theorem dX1_roadBy_30 : decode cX1_roadBy 30 = .ok (.ireturn, 1) := by decide +kernel
set_option maxRecDepth 20000 in
theorem ggX1_weighDepths_X1_isAdmitted : GoodIn wsX1_weighDepths wsX1_isAdmitted := goodIn_r _ [8, 3, 32, 33, 34, 35, 36, 37, 38, 39, 40, 41, 42, 43, 44, 45] (by decide +kernel) (by decide +kernel)
set_option maxRecDepth 20000 in
theorem gX1_weighDepths_X1_isAdmitted : GoodIn wsX1_weighDepths (wsV RX1 89 RX1 yX1_isAdmitted wsX1_isAdmitted) := goodIn_app (goodIn_of _ (by decide +kernel)) ggX1_weighDepths_X1_isAdmitted
set_option maxRecDepth 20000 in
theorem ggX1_weighDepths_X1_weighSet : GoodIn wsX1_weighDepths wsX1_weighSet := goodIn_r _ [12, 1, 13, 14, 7, 15, 16, 17, 18, 19, 20, 21, 22, 2, 23, 24, 25, 26, 27, 28, 29, 30, 31, 32, 33, 34, 35, 36, 37, 38, 39, 40, 41, 42, 43, 44, 45] (by decide +kernel) (by decide +kernel)
set_option maxRecDepth 20000 in
theorem gX1_weighDepths_X1_weighSet : GoodIn wsX1_weighDepths (wsV RX1 117 RX1 yX1_weighSet wsX1_weighSet) := goodIn_app (goodIn_of _ (by decide +kernel)) ggX1_weighDepths_X1_weighSet
theorem dX1_weighDepths_0 : decode cX1_weighDepths 0 = .ok (.iconst 0, 1) := by decide +kernel
theorem dX1_weighDepths_1 : decode cX1_weighDepths 1 = .ok (.istore_n 2, 1) := by decide +kernel
theorem dX1_weighDepths_2 : decode cX1_weighDepths 2 = .ok (.iload_n 2, 1) := by decide +kernel
theorem dX1_weighDepths_3 : decode cX1_weighDepths 3 = .ok (.iload_n 1, 1) := by decide +kernel
theorem dX1_weighDepths_4 : decode cX1_weighDepths 4 = .ok (.if_icmp .gt 26, 3) := by decide +kernel
theorem dX1_weighDepths_7 : decode cX1_weighDepths 7 = .ok (.aload_n 0, 1) := by decide +kernel
theorem dX1_weighDepths_8 : decode cX1_weighDepths 8 = .ok (.getfield 32, 3) := by decide +kernel
theorem dX1_weighDepths_11 : decode cX1_weighDepths 11 = .ok (.iload_n 2, 1) := by decide +kernel
theorem dX1_weighDepths_12 : decode cX1_weighDepths 12 = .ok (.iload_n 2, 1) := by decide +kernel
theorem dX1_weighDepths_13 : decode cX1_weighDepths 13 = .ok (.ifCond .ne 7, 3) := by decide +kernel
theorem dX1_weighDepths_16 : decode cX1_weighDepths 16 = .ok (.lconst 0, 1) := by decide +kernel
theorem dX1_weighDepths_17 : decode cX1_weighDepths 17 = .ok (.goto 6, 3) := by decide +kernel
theorem dX1_weighDepths_20 : decode cX1_weighDepths 20 = .ok (.ldc2_w 115, 3) := by decide +kernel
theorem dX1_weighDepths_23 : decode cX1_weighDepths 23 = .ok (.lastore, 1) := by decide +kernel
theorem dX1_weighDepths_24 : decode cX1_weighDepths 24 = .ok (.iinc 2 1, 3) := by decide +kernel
theorem dX1_weighDepths_27 : decode cX1_weighDepths 27 = .ok (.goto (-25), 3) := by decide +kernel
theorem dX1_weighDepths_30 : decode cX1_weighDepths 30 = .ok (.iconst 1, 1) := by decide +kernel
theorem dX1_weighDepths_31 : decode cX1_weighDepths 31 = .ok (.istore_n 2, 1) := by decide +kernel
theorem dX1_weighDepths_32 : decode cX1_weighDepths 32 = .ok (.iload_n 2, 1) := by decide +kernel
theorem dX1_weighDepths_33 : decode cX1_weighDepths 33 = .ok (.aload_n 0, 1) := by decide +kernel
theorem dX1_weighDepths_34 : decode cX1_weighDepths 34 = .ok (.getfield 15, 3) := by decide +kernel
theorem dX1_weighDepths_37 : decode cX1_weighDepths 37 = .ok (.if_icmp .gt 23, 3) := by decide +kernel
theorem dX1_weighDepths_40 : decode cX1_weighDepths 40 = .ok (.aload_n 0, 1) := by decide +kernel
theorem dX1_weighDepths_41 : decode cX1_weighDepths 41 = .ok (.iload_n 2, 1) := by decide +kernel
theorem dX1_weighDepths_42 : decode cX1_weighDepths 42 = .ok (.invokevirtual 89, 3) := by decide +kernel
theorem dX1_weighDepths_45 : decode cX1_weighDepths 45 = .ok (.ifCond .eq 9, 3) := by decide +kernel
theorem dX1_weighDepths_48 : decode cX1_weighDepths 48 = .ok (.aload_n 0, 1) := by decide +kernel
theorem dX1_weighDepths_49 : decode cX1_weighDepths 49 = .ok (.iload_n 2, 1) := by decide +kernel
theorem dX1_weighDepths_50 : decode cX1_weighDepths 50 = .ok (.iload_n 1, 1) := by decide +kernel
theorem dX1_weighDepths_51 : decode cX1_weighDepths 51 = .ok (.invokevirtual 117, 3) := by decide +kernel
theorem dX1_weighDepths_54 : decode cX1_weighDepths 54 = .ok (.iinc 2 1, 3) := by decide +kernel
theorem dX1_weighDepths_57 : decode cX1_weighDepths 57 = .ok (.goto (-25), 3) := by decide +kernel
theorem dX1_weighDepths_60 : decode cX1_weighDepths 60 = .ok (.return_, 1) := by decide +kernel
set_option maxRecDepth 20000 in
theorem ggX1_weighSet_X1_firstOf : GoodIn wsX1_weighSet wsX1_firstOf := goodIn_r _ [5, 6, 7, 4, 8] (by decide +kernel) (by decide +kernel)
set_option maxRecDepth 20000 in
theorem gX1_weighSet_X1_firstOf : GoodIn wsX1_weighSet (va_wsS RX1 120 yX1_firstOf wsX1_firstOf) := goodIn_app (goodIn_of _ (by decide +kernel)) ggX1_weighSet_X1_firstOf
set_option maxRecDepth 20000 in
theorem ggX1_weighSet_X1_bit : GoodIn wsX1_weighSet wsX1_bit := goodIn_r _ [8] (by decide +kernel) (by decide +kernel)
set_option maxRecDepth 20000 in
theorem gX1_weighSet_X1_bit : GoodIn wsX1_weighSet (va_wsS RX1 72 yX1_bit wsX1_bit) := goodIn_app (goodIn_of _ (by decide +kernel)) ggX1_weighSet_X1_bit
set_option maxRecDepth 20000 in
theorem ggX1_weighSet_X1_greatest : GoodIn wsX1_weighSet wsX1_greatest := goodIn_r _ [12, 13, 14, 15, 16, 17, 18, 19, 20, 4, 21, 1, 22, 23, 24, 25, 26, 27, 28, 29, 30, 31, 32, 33, 34, 35, 36] (by decide +kernel) (by decide +kernel)
set_option maxRecDepth 20000 in
theorem gX1_weighSet_X1_greatest : GoodIn wsX1_weighSet (wsV RX1 123 RX1 yX1_greatest wsX1_greatest) := goodIn_app (goodIn_of _ (by decide +kernel)) ggX1_weighSet_X1_greatest
theorem dX1_weighSet_0 : decode cX1_weighSet 0 = .ok (.iload_n 1, 1) := by decide +kernel
theorem dX1_weighSet_1 : decode cX1_weighSet 1 = .ok (.invokestatic 120, 3) := by decide +kernel
theorem dX1_weighSet_4 : decode cX1_weighSet 4 = .ok (.istore_n 3, 1) := by decide +kernel
theorem dX1_weighSet_5 : decode cX1_weighSet 5 = .ok (.iload_n 1, 1) := by decide +kernel
theorem dX1_weighSet_6 : decode cX1_weighSet 6 = .ok (.iload_n 3, 1) := by decide +kernel
theorem dX1_weighSet_7 : decode cX1_weighSet 7 = .ok (.invokestatic 72, 3) := by decide +kernel
theorem dX1_weighSet_10 : decode cX1_weighSet 10 = .ok (.iconst (-1), 1) := by decide +kernel
theorem dX1_weighSet_11 : decode cX1_weighSet 11 = .ok (.ixor, 1) := by decide +kernel
theorem dX1_weighSet_12 : decode cX1_weighSet 12 = .ok (.iand, 1) := by decide +kernel
theorem dX1_weighSet_13 : decode cX1_weighSet 13 = .ok (.istore 4, 2) := by decide +kernel
theorem dX1_weighSet_15 : decode cX1_weighSet 15 = .ok (.iconst 0, 1) := by decide +kernel
theorem dX1_weighSet_16 : decode cX1_weighSet 16 = .ok (.istore 5, 2) := by decide +kernel
theorem dX1_weighSet_18 : decode cX1_weighSet 18 = .ok (.iload 5, 2) := by decide +kernel
theorem dX1_weighSet_20 : decode cX1_weighSet 20 = .ok (.iload_n 2, 1) := by decide +kernel
theorem dX1_weighSet_21 : decode cX1_weighSet 21 = .ok (.if_icmp .gt 30, 3) := by decide +kernel
theorem dX1_weighSet_24 : decode cX1_weighSet 24 = .ok (.aload_n 0, 1) := by decide +kernel
theorem dX1_weighSet_25 : decode cX1_weighSet 25 = .ok (.getfield 32, 3) := by decide +kernel
theorem dX1_weighSet_28 : decode cX1_weighSet 28 = .ok (.iload_n 1, 1) := by decide +kernel
theorem dX1_weighSet_29 : decode cX1_weighSet 29 = .ok (.bipush 29, 2) := by decide +kernel
theorem dX1_weighSet_31 : decode cX1_weighSet 31 = .ok (.imul, 1) := by decide +kernel
theorem dX1_weighSet_32 : decode cX1_weighSet 32 = .ok (.iload 5, 2) := by decide +kernel
theorem dX1_weighSet_34 : decode cX1_weighSet 34 = .ok (.iadd, 1) := by decide +kernel
theorem dX1_weighSet_35 : decode cX1_weighSet 35 = .ok (.aload_n 0, 1) := by decide +kernel
theorem dX1_weighSet_36 : decode cX1_weighSet 36 = .ok (.iload 4, 2) := by decide +kernel
theorem dX1_weighSet_38 : decode cX1_weighSet 38 = .ok (.iload 5, 2) := by decide +kernel
theorem dX1_weighSet_40 : decode cX1_weighSet 40 = .ok (.iload_n 3, 1) := by decide +kernel
theorem dX1_weighSet_41 : decode cX1_weighSet 41 = .ok (.invokevirtual 123, 3) := by decide +kernel
theorem dX1_weighSet_44 : decode cX1_weighSet 44 = .ok (.lastore, 1) := by decide +kernel
theorem dX1_weighSet_45 : decode cX1_weighSet 45 = .ok (.iinc 5 1, 3) := by decide +kernel
theorem dX1_weighSet_48 : decode cX1_weighSet 48 = .ok (.goto (-30), 3) := by decide +kernel
theorem dX1_weighSet_51 : decode cX1_weighSet 51 = .ok (.return_, 1) := by decide +kernel
set_option maxRecDepth 20000 in
theorem ggX1_greatest_X1_worthWith : GoodIn wsX1_greatest wsX1_worthWith := goodIn_r _ [10, 11, 1, 12, 13, 14, 15, 16, 17, 18, 19, 20, 21, 22, 23, 24, 25, 26] (by decide +kernel) (by decide +kernel)
set_option maxRecDepth 20000 in
theorem gX1_greatest_X1_worthWith : GoodIn wsX1_greatest (wsV RX1 127 RX1 yX1_worthWith wsX1_worthWith) := goodIn_app (goodIn_of _ (by decide +kernel)) ggX1_greatest_X1_worthWith
theorem dX1_greatest_0 : decode cX1_greatest 0 = .ok (.ldc2_w 115, 3) := by decide +kernel
theorem dX1_greatest_3 : decode cX1_greatest 3 = .ok (.lstore 4, 2) := by decide +kernel
theorem dX1_greatest_5 : decode cX1_greatest 5 = .ok (.iconst 1, 1) := by decide +kernel
theorem dX1_greatest_6 : decode cX1_greatest 6 = .ok (.istore 6, 2) := by decide +kernel
theorem dX1_greatest_8 : decode cX1_greatest 8 = .ok (.iload 6, 2) := by decide +kernel
theorem dX1_greatest_10 : decode cX1_greatest 10 = .ok (.iconst 4, 1) := by decide +kernel
theorem dX1_greatest_11 : decode cX1_greatest 11 = .ok (.if_icmp .gt 34, 3) := by decide +kernel
theorem dX1_greatest_14 : decode cX1_greatest 14 = .ok (.iload 6, 2) := by decide +kernel
theorem dX1_greatest_16 : decode cX1_greatest 16 = .ok (.iload_n 2, 1) := by decide +kernel
theorem dX1_greatest_17 : decode cX1_greatest 17 = .ok (.if_icmp .gt 28, 3) := by decide +kernel
theorem dX1_greatest_20 : decode cX1_greatest 20 = .ok (.lload 4, 2) := by decide +kernel
theorem dX1_greatest_22 : decode cX1_greatest 22 = .ok (.aload_n 0, 1) := by decide +kernel
theorem dX1_greatest_23 : decode cX1_greatest 23 = .ok (.iload_n 1, 1) := by decide +kernel
theorem dX1_greatest_24 : decode cX1_greatest 24 = .ok (.iload_n 2, 1) := by decide +kernel
theorem dX1_greatest_25 : decode cX1_greatest 25 = .ok (.iload 6, 2) := by decide +kernel
theorem dX1_greatest_27 : decode cX1_greatest 27 = .ok (.isub, 1) := by decide +kernel
theorem dX1_greatest_28 : decode cX1_greatest 28 = .ok (.iload_n 3, 1) := by decide +kernel
theorem dX1_greatest_29 : decode cX1_greatest 29 = .ok (.iload 6, 2) := by decide +kernel
theorem dX1_greatest_31 : decode cX1_greatest 31 = .ok (.invokevirtual 127, 3) := by decide +kernel
theorem dX1_greatest_34 : decode cX1_greatest 34 = .ok (.invokestatic 131, 3) := by decide +kernel
theorem dX1_greatest_37 : decode cX1_greatest 37 = .ok (.lstore 4, 2) := by decide +kernel
theorem dX1_greatest_39 : decode cX1_greatest 39 = .ok (.iinc 6 1, 3) := by decide +kernel
theorem dX1_greatest_42 : decode cX1_greatest 42 = .ok (.goto (-34), 3) := by decide +kernel
theorem dX1_greatest_45 : decode cX1_greatest 45 = .ok (.lload 4, 2) := by decide +kernel
theorem dX1_greatest_47 : decode cX1_greatest 47 = .ok (.lreturn, 1) := by decide +kernel
theorem dX1_worthWith_0 : decode cX1_worthWith 0 = .ok (.aload_n 0, 1) := by decide +kernel
theorem dX1_worthWith_1 : decode cX1_worthWith 1 = .ok (.getfield 32, 3) := by decide +kernel
theorem dX1_worthWith_4 : decode cX1_worthWith 4 = .ok (.iload_n 1, 1) := by decide +kernel
theorem dX1_worthWith_5 : decode cX1_worthWith 5 = .ok (.bipush 29, 2) := by decide +kernel
theorem dX1_worthWith_7 : decode cX1_worthWith 7 = .ok (.imul, 1) := by decide +kernel
theorem dX1_worthWith_8 : decode cX1_worthWith 8 = .ok (.iload_n 2, 1) := by decide +kernel
theorem dX1_worthWith_9 : decode cX1_worthWith 9 = .ok (.iadd, 1) := by decide +kernel
theorem dX1_worthWith_10 : decode cX1_worthWith 10 = .ok (.laload, 1) := by decide +kernel
theorem dX1_worthWith_11 : decode cX1_worthWith 11 = .ok (.lstore 5, 2) := by decide +kernel
theorem dX1_worthWith_13 : decode cX1_worthWith 13 = .ok (.lload 5, 2) := by decide +kernel
theorem dX1_worthWith_15 : decode cX1_worthWith 15 = .ok (.ldc2_w 115, 3) := by decide +kernel
theorem dX1_worthWith_18 : decode cX1_worthWith 18 = .ok (.lcmp, 1) := by decide +kernel
theorem dX1_worthWith_19 : decode cX1_worthWith 19 = .ok (.ifCond .ne 9, 3) := by decide +kernel
theorem dX1_worthWith_22 : decode cX1_worthWith 22 = .ok (.ldc2_w 115, 3) := by decide +kernel
theorem dX1_worthWith_25 : decode cX1_worthWith 25 = .ok (.goto 17, 3) := by decide +kernel
theorem dX1_worthWith_28 : decode cX1_worthWith 28 = .ok (.lload 5, 2) := by decide +kernel
theorem dX1_worthWith_30 : decode cX1_worthWith 30 = .ok (.aload_n 0, 1) := by decide +kernel
theorem dX1_worthWith_31 : decode cX1_worthWith 31 = .ok (.getfield 21, 3) := by decide +kernel
theorem dX1_worthWith_34 : decode cX1_worthWith 34 = .ok (.iload_n 3, 1) := by decide +kernel
theorem dX1_worthWith_35 : decode cX1_worthWith 35 = .ok (.iconst 5, 1) := by decide +kernel
theorem dX1_worthWith_36 : decode cX1_worthWith 36 = .ok (.imul, 1) := by decide +kernel
theorem dX1_worthWith_37 : decode cX1_worthWith 37 = .ok (.iload 4, 2) := by decide +kernel
theorem dX1_worthWith_39 : decode cX1_worthWith 39 = .ok (.iadd, 1) := by decide +kernel
theorem dX1_worthWith_40 : decode cX1_worthWith 40 = .ok (.laload, 1) := by decide +kernel
theorem dX1_worthWith_41 : decode cX1_worthWith 41 = .ok (.ladd, 1) := by decide +kernel
theorem dX1_worthWith_42 : decode cX1_worthWith 42 = .ok (.lreturn, 1) := by decide +kernel
set_option maxRecDepth 20000 in
theorem ggX1_choose_X1_isAdmitted : GoodIn wsX1_choose wsX1_isAdmitted := goodIn_r _ [14, 2, 70, 71, 72, 73, 74, 75, 76, 77, 78, 79, 80, 81, 82, 83] (by decide +kernel) (by decide +kernel)
set_option maxRecDepth 20000 in
theorem gX1_choose_X1_isAdmitted : GoodIn wsX1_choose (wsV RX1 89 RX1 yX1_isAdmitted wsX1_isAdmitted) := goodIn_app (goodIn_of _ (by decide +kernel)) ggX1_choose_X1_isAdmitted
set_option maxRecDepth 20000 in
theorem ggX1_choose_J6_bitCount_0f7a4 : GoodIn wsX1_choose wsJ6_bitCount_0f7a4 := goodIn_r _ [18, 19, 20, 21] (by decide +kernel) (by decide +kernel)
set_option maxRecDepth 20000 in
theorem gX1_choose_J6_bitCount_0f7a4 : GoodIn wsX1_choose (va_wsS RX1 135 yJ6_bitCount_0f7a4 wsJ6_bitCount_0f7a4) := goodIn_app (goodIn_of _ (by decide +kernel)) ggX1_choose_J6_bitCount_0f7a4
set_option maxRecDepth 20000 in
theorem ggX1_choose_X1_offer : GoodIn wsX1_choose wsX1_offer := goodIn_r _ [25, 26, 27, 1, 28, 8, 29, 30, 31, 32, 33, 34, 13, 35, 36, 37, 38, 39, 40, 41, 42, 43, 44, 45, 46, 47, 4, 5, 6, 7, 48, 49, 50, 51, 52, 70, 71, 72, 73, 74, 75, 76, 77, 78, 79, 80, 81, 82, 83] (by decide +kernel) (by decide +kernel)
set_option maxRecDepth 20000 in
theorem gX1_choose_X1_offer : GoodIn wsX1_choose (wsV RX1 140 RX1 yX1_offer wsX1_offer) := goodIn_app (goodIn_of _ (by decide +kernel)) ggX1_choose_X1_offer
set_option maxRecDepth 20000 in
theorem ggX1_choose_X1_layOrder : GoodIn wsX1_choose wsX1_layOrder := goodIn_r _ [56, 8, 9, 57, 58, 59, 60, 13, 61, 3, 41, 42, 43, 62, 63, 64, 65, 66, 67, 68, 69, 70, 71, 72, 73, 74, 75, 76, 77, 78, 79, 80, 81, 82, 83] (by decide +kernel) (by decide +kernel)
set_option maxRecDepth 20000 in
theorem gX1_choose_X1_layOrder : GoodIn wsX1_choose (wsV RX1 144 RX1 yX1_layOrder wsX1_layOrder) := goodIn_app (goodIn_of _ (by decide +kernel)) ggX1_choose_X1_layOrder
theorem dX1_choose_0 : decode cX1_choose 0 = .ok (.aload_n 0, 1) := by decide +kernel
theorem dX1_choose_1 : decode cX1_choose 1 = .ok (.iconst 0, 1) := by decide +kernel
theorem dX1_choose_2 : decode cX1_choose 2 = .ok (.putfield 35, 3) := by decide +kernel
theorem dX1_choose_5 : decode cX1_choose 5 = .ok (.iconst 0, 1) := by decide +kernel
theorem dX1_choose_6 : decode cX1_choose 6 = .ok (.istore 5, 2) := by decide +kernel
theorem dX1_choose_8 : decode cX1_choose 8 = .ok (.iload 5, 2) := by decide +kernel
theorem dX1_choose_10 : decode cX1_choose 10 = .ok (.aload_n 0, 1) := by decide +kernel
theorem dX1_choose_11 : decode cX1_choose 11 = .ok (.getfield 15, 3) := by decide +kernel
theorem dX1_choose_14 : decode cX1_choose 14 = .ok (.if_icmp .gt 80, 3) := by decide +kernel
theorem dX1_choose_17 : decode cX1_choose 17 = .ok (.aload_n 0, 1) := by decide +kernel
theorem dX1_choose_18 : decode cX1_choose 18 = .ok (.iload 5, 2) := by decide +kernel
theorem dX1_choose_20 : decode cX1_choose 20 = .ok (.invokevirtual 89, 3) := by decide +kernel
theorem dX1_choose_23 : decode cX1_choose 23 = .ok (.ifCond .eq 65, 3) := by decide +kernel
theorem dX1_choose_26 : decode cX1_choose 26 = .ok (.aload_n 0, 1) := by decide +kernel
theorem dX1_choose_27 : decode cX1_choose 27 = .ok (.getfield 25, 3) := by decide +kernel
theorem dX1_choose_30 : decode cX1_choose 30 = .ok (.iload 5, 2) := by decide +kernel
theorem dX1_choose_32 : decode cX1_choose 32 = .ok (.bipush 8, 2) := by decide +kernel
theorem dX1_choose_34 : decode cX1_choose 34 = .ok (.imul, 1) := by decide +kernel
theorem dX1_choose_35 : decode cX1_choose 35 = .ok (.iload_n 1, 1) := by decide +kernel
theorem dX1_choose_36 : decode cX1_choose 36 = .ok (.iadd, 1) := by decide +kernel
theorem dX1_choose_37 : decode cX1_choose 37 = .ok (.iaload, 1) := by decide +kernel
theorem dX1_choose_38 : decode cX1_choose 38 = .ok (.iload 4, 2) := by decide +kernel
theorem dX1_choose_40 : decode cX1_choose 40 = .ok (.iload 5, 2) := by decide +kernel
theorem dX1_choose_42 : decode cX1_choose 42 = .ok (.invokestatic 135, 3) := by decide +kernel
theorem dX1_choose_45 : decode cX1_choose 45 = .ok (.imul, 1) := by decide +kernel
theorem dX1_choose_46 : decode cX1_choose 46 = .ok (.iadd, 1) := by decide +kernel
theorem dX1_choose_47 : decode cX1_choose 47 = .ok (.istore 6, 2) := by decide +kernel
theorem dX1_choose_49 : decode cX1_choose 49 = .ok (.iload_n 2, 1) := by decide +kernel
theorem dX1_choose_50 : decode cX1_choose 50 = .ok (.iload_n 3, 1) := by decide +kernel
theorem dX1_choose_51 : decode cX1_choose 51 = .ok (.iload 6, 2) := by decide +kernel
theorem dX1_choose_53 : decode cX1_choose 53 = .ok (.isub, 1) := by decide +kernel
theorem dX1_choose_54 : decode cX1_choose 54 = .ok (.invokestatic 110, 3) := by decide +kernel
theorem dX1_choose_57 : decode cX1_choose 57 = .ok (.istore 7, 2) := by decide +kernel
theorem dX1_choose_59 : decode cX1_choose 59 = .ok (.iconst 0, 1) := by decide +kernel
theorem dX1_choose_60 : decode cX1_choose 60 = .ok (.istore 8, 2) := by decide +kernel
theorem dX1_choose_62 : decode cX1_choose 62 = .ok (.iload 8, 2) := by decide +kernel
theorem dX1_choose_64 : decode cX1_choose 64 = .ok (.iload 7, 2) := by decide +kernel
theorem dX1_choose_66 : decode cX1_choose 66 = .ok (.if_icmp .gt 22, 3) := by decide +kernel
theorem dX1_choose_69 : decode cX1_choose 69 = .ok (.aload_n 0, 1) := by decide +kernel
theorem dX1_choose_70 : decode cX1_choose 70 = .ok (.iload 5, 2) := by decide +kernel
theorem dX1_choose_72 : decode cX1_choose 72 = .ok (.iload 8, 2) := by decide +kernel
theorem dX1_choose_74 : decode cX1_choose 74 = .ok (.iload 8, 2) := by decide +kernel
theorem dX1_choose_76 : decode cX1_choose 76 = .ok (.iload 6, 2) := by decide +kernel
theorem dX1_choose_78 : decode cX1_choose 78 = .ok (.iadd, 1) := by decide +kernel
theorem dX1_choose_79 : decode cX1_choose 79 = .ok (.invokevirtual 140, 3) := by decide +kernel
theorem dX1_choose_82 : decode cX1_choose 82 = .ok (.iinc 8 1, 3) := by decide +kernel
theorem dX1_choose_85 : decode cX1_choose 85 = .ok (.goto (-23), 3) := by decide +kernel
theorem dX1_choose_88 : decode cX1_choose 88 = .ok (.iinc 5 1, 3) := by decide +kernel
theorem dX1_choose_91 : decode cX1_choose 91 = .ok (.goto (-83), 3) := by decide +kernel
theorem dX1_choose_94 : decode cX1_choose 94 = .ok (.aload_n 0, 1) := by decide +kernel
theorem dX1_choose_95 : decode cX1_choose 95 = .ok (.aload_n 0, 1) := by decide +kernel
theorem dX1_choose_96 : decode cX1_choose 96 = .ok (.getfield 43, 3) := by decide +kernel
theorem dX1_choose_99 : decode cX1_choose 99 = .ok (.invokestatic 135, 3) := by decide +kernel
theorem dX1_choose_102 : decode cX1_choose 102 = .ok (.putfield 52, 3) := by decide +kernel
theorem dX1_choose_105 : decode cX1_choose 105 = .ok (.aload_n 0, 1) := by decide +kernel
theorem dX1_choose_106 : decode cX1_choose 106 = .ok (.iload_n 1, 1) := by decide +kernel
theorem dX1_choose_107 : decode cX1_choose 107 = .ok (.invokevirtual 144, 3) := by decide +kernel
theorem dX1_choose_110 : decode cX1_choose 110 = .ok (.return_, 1) := by decide +kernel
set_option maxRecDepth 20000 in
theorem ggX1_offer_X1_isBetter : GoodIn wsX1_offer wsX1_isBetter := goodIn_r _ [13, 3, 4, 6, 7, 14, 8, 15, 16, 17, 12, 18, 1, 19, 20, 21, 22, 23, 24, 25, 26, 27, 28, 29, 30, 31, 32, 33, 2, 34, 35, 36, 37, 38, 39, 40, 41, 42, 43, 44, 45, 46, 47, 48] (by decide +kernel) (by decide +kernel)
set_option maxRecDepth 20000 in
theorem gX1_offer_X1_isBetter : GoodIn wsX1_offer (wsV RX1 148 RX1 yX1_isBetter wsX1_isBetter) := goodIn_app (goodIn_of _ (by decide +kernel)) ggX1_offer_X1_isBetter
set_option maxRecDepth 20000 in
theorem ggX1_offer_X1_layDepths : GoodIn wsX1_offer wsX1_layDepths := goodIn_r _ [18, 1, 19, 20, 12, 21, 22, 23, 24, 25, 26, 27, 28, 29, 30, 31, 32, 33, 2, 34, 35, 36, 37, 38, 39, 40, 41, 42, 43, 44, 45, 46, 47, 48] (by decide +kernel) (by decide +kernel)
set_option maxRecDepth 20000 in
theorem gX1_offer_X1_layDepths : GoodIn wsX1_offer (wsV RX1 152 RX1 yX1_layDepths wsX1_layDepths) := goodIn_app (goodIn_of _ (by decide +kernel)) ggX1_offer_X1_layDepths
theorem dX1_offer_0 : decode cX1_offer 0 = .ok (.aload_n 0, 1) := by decide +kernel
theorem dX1_offer_1 : decode cX1_offer 1 = .ok (.getfield 32, 3) := by decide +kernel
theorem dX1_offer_4 : decode cX1_offer 4 = .ok (.iload_n 1, 1) := by decide +kernel
theorem dX1_offer_5 : decode cX1_offer 5 = .ok (.bipush 29, 2) := by decide +kernel
theorem dX1_offer_7 : decode cX1_offer 7 = .ok (.imul, 1) := by decide +kernel
theorem dX1_offer_8 : decode cX1_offer 8 = .ok (.iload_n 2, 1) := by decide +kernel
theorem dX1_offer_9 : decode cX1_offer 9 = .ok (.iadd, 1) := by decide +kernel
theorem dX1_offer_10 : decode cX1_offer 10 = .ok (.laload, 1) := by decide +kernel
theorem dX1_offer_11 : decode cX1_offer 11 = .ok (.lstore 4, 2) := by decide +kernel
theorem dX1_offer_13 : decode cX1_offer 13 = .ok (.lload 4, 2) := by decide +kernel
theorem dX1_offer_15 : decode cX1_offer 15 = .ok (.ldc2_w 115, 3) := by decide +kernel
theorem dX1_offer_18 : decode cX1_offer 18 = .ok (.lcmp, 1) := by decide +kernel
theorem dX1_offer_19 : decode cX1_offer 19 = .ok (.ifCond .eq 15, 3) := by decide +kernel
theorem dX1_offer_22 : decode cX1_offer 22 = .ok (.aload_n 0, 1) := by decide +kernel
theorem dX1_offer_23 : decode cX1_offer 23 = .ok (.lload 4, 2) := by decide +kernel
theorem dX1_offer_25 : decode cX1_offer 25 = .ok (.iload_n 1, 1) := by decide +kernel
theorem dX1_offer_26 : decode cX1_offer 26 = .ok (.iload_n 2, 1) := by decide +kernel
theorem dX1_offer_27 : decode cX1_offer 27 = .ok (.iload_n 3, 1) := by decide +kernel
theorem dX1_offer_28 : decode cX1_offer 28 = .ok (.invokevirtual 148, 3) := by decide +kernel
theorem dX1_offer_31 : decode cX1_offer 31 = .ok (.ifCond .ne 4, 3) := by decide +kernel
theorem dX1_offer_34 : decode cX1_offer 34 = .ok (.return_, 1) := by decide +kernel
theorem dX1_offer_35 : decode cX1_offer 35 = .ok (.aload_n 0, 1) := by decide +kernel
theorem dX1_offer_36 : decode cX1_offer 36 = .ok (.iconst 1, 1) := by decide +kernel
theorem dX1_offer_37 : decode cX1_offer 37 = .ok (.putfield 35, 3) := by decide +kernel
theorem dX1_offer_40 : decode cX1_offer 40 = .ok (.aload_n 0, 1) := by decide +kernel
theorem dX1_offer_41 : decode cX1_offer 41 = .ok (.lload 4, 2) := by decide +kernel
theorem dX1_offer_43 : decode cX1_offer 43 = .ok (.putfield 39, 3) := by decide +kernel
theorem dX1_offer_46 : decode cX1_offer 46 = .ok (.aload_n 0, 1) := by decide +kernel
theorem dX1_offer_47 : decode cX1_offer 47 = .ok (.iload_n 1, 1) := by decide +kernel
theorem dX1_offer_48 : decode cX1_offer 48 = .ok (.putfield 43, 3) := by decide +kernel
theorem dX1_offer_51 : decode cX1_offer 51 = .ok (.aload_n 0, 1) := by decide +kernel
theorem dX1_offer_52 : decode cX1_offer 52 = .ok (.iload_n 2, 1) := by decide +kernel
theorem dX1_offer_53 : decode cX1_offer 53 = .ok (.putfield 46, 3) := by decide +kernel
theorem dX1_offer_56 : decode cX1_offer 56 = .ok (.aload_n 0, 1) := by decide +kernel
theorem dX1_offer_57 : decode cX1_offer 57 = .ok (.iload_n 3, 1) := by decide +kernel
theorem dX1_offer_58 : decode cX1_offer 58 = .ok (.putfield 49, 3) := by decide +kernel
theorem dX1_offer_61 : decode cX1_offer 61 = .ok (.aload_n 0, 1) := by decide +kernel
theorem dX1_offer_62 : decode cX1_offer 62 = .ok (.iload_n 1, 1) := by decide +kernel
theorem dX1_offer_63 : decode cX1_offer 63 = .ok (.iload_n 2, 1) := by decide +kernel
theorem dX1_offer_64 : decode cX1_offer 64 = .ok (.aload_n 0, 1) := by decide +kernel
theorem dX1_offer_65 : decode cX1_offer 65 = .ok (.getfield 55, 3) := by decide +kernel
theorem dX1_offer_68 : decode cX1_offer 68 = .ok (.invokevirtual 152, 3) := by decide +kernel
theorem dX1_offer_71 : decode cX1_offer 71 = .ok (.return_, 1) := by decide +kernel
set_option maxRecDepth 20000 in
theorem ggX1_isBetter_X1_layDepths : GoodIn wsX1_isBetter wsX1_layDepths := goodIn_r _ [11, 12, 13, 14, 10, 15, 16, 17, 18, 19, 20, 21, 22, 23, 24, 25, 26, 27, 28, 29, 30, 31, 32, 33, 34, 35, 36, 37, 38, 39, 40, 41, 42, 43] (by decide +kernel) (by decide +kernel)
set_option maxRecDepth 20000 in
theorem gX1_isBetter_X1_layDepths : GoodIn wsX1_isBetter (wsV RX1 152 RX1 yX1_layDepths wsX1_layDepths) := goodIn_app (goodIn_of _ (by decide +kernel)) ggX1_isBetter_X1_layDepths
theorem dX1_isBetter_0 : decode cX1_isBetter 0 = .ok (.aload_n 0, 1) := by decide +kernel
theorem dX1_isBetter_1 : decode cX1_isBetter 1 = .ok (.getfield 35, 3) := by decide +kernel
theorem dX1_isBetter_4 : decode cX1_isBetter 4 = .ok (.ifCond .eq 12, 3) := by decide +kernel
theorem dX1_isBetter_7 : decode cX1_isBetter 7 = .ok (.lload_n 1, 1) := by decide +kernel
theorem dX1_isBetter_8 : decode cX1_isBetter 8 = .ok (.aload_n 0, 1) := by decide +kernel
theorem dX1_isBetter_9 : decode cX1_isBetter 9 = .ok (.getfield 39, 3) := by decide +kernel
theorem dX1_isBetter_12 : decode cX1_isBetter 12 = .ok (.lcmp, 1) := by decide +kernel
theorem dX1_isBetter_13 : decode cX1_isBetter 13 = .ok (.ifCond .eq 25, 3) := by decide +kernel
theorem dX1_isBetter_16 : decode cX1_isBetter 16 = .ok (.aload_n 0, 1) := by decide +kernel
theorem dX1_isBetter_17 : decode cX1_isBetter 17 = .ok (.getfield 35, 3) := by decide +kernel
theorem dX1_isBetter_20 : decode cX1_isBetter 20 = .ok (.ifCond .eq 12, 3) := by decide +kernel
theorem dX1_isBetter_23 : decode cX1_isBetter 23 = .ok (.lload_n 1, 1) := by decide +kernel
theorem dX1_isBetter_24 : decode cX1_isBetter 24 = .ok (.aload_n 0, 1) := by decide +kernel
theorem dX1_isBetter_25 : decode cX1_isBetter 25 = .ok (.getfield 39, 3) := by decide +kernel
theorem dX1_isBetter_28 : decode cX1_isBetter 28 = .ok (.lcmp, 1) := by decide +kernel
theorem dX1_isBetter_29 : decode cX1_isBetter 29 = .ok (.ifCond .le 7, 3) := by decide +kernel
theorem dX1_isBetter_32 : decode cX1_isBetter 32 = .ok (.iconst 1, 1) := by decide +kernel
theorem dX1_isBetter_33 : decode cX1_isBetter 33 = .ok (.goto 4, 3) := by decide +kernel
theorem dX1_isBetter_36 : decode cX1_isBetter 36 = .ok (.iconst 0, 1) := by decide +kernel
theorem dX1_isBetter_37 : decode cX1_isBetter 37 = .ok (.ireturn, 1) := by decide +kernel
theorem dX1_isBetter_38 : decode cX1_isBetter 38 = .ok (.iload 4, 2) := by decide +kernel
theorem dX1_isBetter_40 : decode cX1_isBetter 40 = .ok (.aload_n 0, 1) := by decide +kernel
theorem dX1_isBetter_41 : decode cX1_isBetter 41 = .ok (.getfield 46, 3) := by decide +kernel
theorem dX1_isBetter_44 : decode cX1_isBetter 44 = .ok (.if_icmp .eq 18, 3) := by decide +kernel
theorem dX1_isBetter_47 : decode cX1_isBetter 47 = .ok (.iload 4, 2) := by decide +kernel
theorem dX1_isBetter_49 : decode cX1_isBetter 49 = .ok (.aload_n 0, 1) := by decide +kernel
theorem dX1_isBetter_50 : decode cX1_isBetter 50 = .ok (.getfield 46, 3) := by decide +kernel
theorem dX1_isBetter_53 : decode cX1_isBetter 53 = .ok (.if_icmp .ge 7, 3) := by decide +kernel
theorem dX1_isBetter_56 : decode cX1_isBetter 56 = .ok (.iconst 1, 1) := by decide +kernel
theorem dX1_isBetter_57 : decode cX1_isBetter 57 = .ok (.goto 4, 3) := by decide +kernel
theorem dX1_isBetter_60 : decode cX1_isBetter 60 = .ok (.iconst 0, 1) := by decide +kernel
theorem dX1_isBetter_61 : decode cX1_isBetter 61 = .ok (.ireturn, 1) := by decide +kernel
theorem dX1_isBetter_62 : decode cX1_isBetter 62 = .ok (.iload 5, 2) := by decide +kernel
theorem dX1_isBetter_64 : decode cX1_isBetter 64 = .ok (.aload_n 0, 1) := by decide +kernel
theorem dX1_isBetter_65 : decode cX1_isBetter 65 = .ok (.getfield 49, 3) := by decide +kernel
theorem dX1_isBetter_68 : decode cX1_isBetter 68 = .ok (.if_icmp .eq 18, 3) := by decide +kernel
theorem dX1_isBetter_71 : decode cX1_isBetter 71 = .ok (.iload 5, 2) := by decide +kernel
theorem dX1_isBetter_73 : decode cX1_isBetter 73 = .ok (.aload_n 0, 1) := by decide +kernel
theorem dX1_isBetter_74 : decode cX1_isBetter 74 = .ok (.getfield 49, 3) := by decide +kernel
theorem dX1_isBetter_77 : decode cX1_isBetter 77 = .ok (.if_icmp .ge 7, 3) := by decide +kernel
theorem dX1_isBetter_80 : decode cX1_isBetter 80 = .ok (.iconst 1, 1) := by decide +kernel
theorem dX1_isBetter_81 : decode cX1_isBetter 81 = .ok (.goto 4, 3) := by decide +kernel
theorem dX1_isBetter_84 : decode cX1_isBetter 84 = .ok (.iconst 0, 1) := by decide +kernel
theorem dX1_isBetter_85 : decode cX1_isBetter 85 = .ok (.ireturn, 1) := by decide +kernel
theorem dX1_isBetter_86 : decode cX1_isBetter 86 = .ok (.aload_n 0, 1) := by decide +kernel
theorem dX1_isBetter_87 : decode cX1_isBetter 87 = .ok (.iload_n 3, 1) := by decide +kernel
theorem dX1_isBetter_88 : decode cX1_isBetter 88 = .ok (.iload 4, 2) := by decide +kernel
theorem dX1_isBetter_90 : decode cX1_isBetter 90 = .ok (.aload_n 0, 1) := by decide +kernel
theorem dX1_isBetter_91 : decode cX1_isBetter 91 = .ok (.getfield 58, 3) := by decide +kernel
theorem dX1_isBetter_94 : decode cX1_isBetter 94 = .ok (.invokevirtual 152, 3) := by decide +kernel
theorem dX1_isBetter_97 : decode cX1_isBetter 97 = .ok (.iconst 1, 1) := by decide +kernel
theorem dX1_isBetter_98 : decode cX1_isBetter 98 = .ok (.istore 6, 2) := by decide +kernel
theorem dX1_isBetter_100 : decode cX1_isBetter 100 = .ok (.iload 6, 2) := by decide +kernel
theorem dX1_isBetter_102 : decode cX1_isBetter 102 = .ok (.bipush 8, 2) := by decide +kernel
theorem dX1_isBetter_104 : decode cX1_isBetter 104 = .ok (.if_icmp .ge 49, 3) := by decide +kernel
theorem dX1_isBetter_107 : decode cX1_isBetter 107 = .ok (.aload_n 0, 1) := by decide +kernel
theorem dX1_isBetter_108 : decode cX1_isBetter 108 = .ok (.getfield 58, 3) := by decide +kernel
theorem dX1_isBetter_111 : decode cX1_isBetter 111 = .ok (.iload 6, 2) := by decide +kernel
theorem dX1_isBetter_113 : decode cX1_isBetter 113 = .ok (.iaload, 1) := by decide +kernel
theorem dX1_isBetter_114 : decode cX1_isBetter 114 = .ok (.aload_n 0, 1) := by decide +kernel
theorem dX1_isBetter_115 : decode cX1_isBetter 115 = .ok (.getfield 55, 3) := by decide +kernel
theorem dX1_isBetter_118 : decode cX1_isBetter 118 = .ok (.iload 6, 2) := by decide +kernel
theorem dX1_isBetter_120 : decode cX1_isBetter 120 = .ok (.iaload, 1) := by decide +kernel
theorem dX1_isBetter_121 : decode cX1_isBetter 121 = .ok (.if_icmp .eq 26, 3) := by decide +kernel
theorem dX1_isBetter_124 : decode cX1_isBetter 124 = .ok (.aload_n 0, 1) := by decide +kernel
theorem dX1_isBetter_125 : decode cX1_isBetter 125 = .ok (.getfield 58, 3) := by decide +kernel
theorem dX1_isBetter_128 : decode cX1_isBetter 128 = .ok (.iload 6, 2) := by decide +kernel
theorem dX1_isBetter_130 : decode cX1_isBetter 130 = .ok (.iaload, 1) := by decide +kernel
theorem dX1_isBetter_131 : decode cX1_isBetter 131 = .ok (.aload_n 0, 1) := by decide +kernel
theorem dX1_isBetter_132 : decode cX1_isBetter 132 = .ok (.getfield 55, 3) := by decide +kernel
theorem dX1_isBetter_135 : decode cX1_isBetter 135 = .ok (.iload 6, 2) := by decide +kernel
theorem dX1_isBetter_137 : decode cX1_isBetter 137 = .ok (.iaload, 1) := by decide +kernel
theorem dX1_isBetter_138 : decode cX1_isBetter 138 = .ok (.if_icmp .ge 7, 3) := by decide +kernel
theorem dX1_isBetter_141 : decode cX1_isBetter 141 = .ok (.iconst 1, 1) := by decide +kernel
theorem dX1_isBetter_142 : decode cX1_isBetter 142 = .ok (.goto 4, 3) := by decide +kernel
theorem dX1_isBetter_145 : decode cX1_isBetter 145 = .ok (.iconst 0, 1) := by decide +kernel
theorem dX1_isBetter_146 : decode cX1_isBetter 146 = .ok (.ireturn, 1) := by decide +kernel
theorem dX1_isBetter_147 : decode cX1_isBetter 147 = .ok (.iinc 6 1, 3) := by decide +kernel
theorem dX1_isBetter_150 : decode cX1_isBetter 150 = .ok (.goto (-50), 3) := by decide +kernel
theorem dX1_isBetter_153 : decode cX1_isBetter 153 = .ok (.iconst 0, 1) := by decide +kernel
theorem dX1_isBetter_154 : decode cX1_isBetter 154 = .ok (.ireturn, 1) := by decide +kernel
set_option maxRecDepth 20000 in
theorem ggX1_layDepths_X1_bit : GoodIn wsX1_layDepths wsX1_bit := goodIn_r _ [5] (by decide +kernel) (by decide +kernel)
set_option maxRecDepth 20000 in
theorem gX1_layDepths_X1_bit : GoodIn wsX1_layDepths (va_wsS RX1 72 yX1_bit wsX1_bit) := goodIn_app (goodIn_of _ (by decide +kernel)) ggX1_layDepths_X1_bit
set_option maxRecDepth 20000 in
theorem ggX1_layDepths_X1_leastDepth : GoodIn wsX1_layDepths wsX1_leastDepth := goodIn_r _ [9, 10, 11, 12, 13, 14, 15, 16, 4, 17, 1, 18, 19, 20, 21, 22, 23, 24, 25, 26, 27, 28, 29, 30, 31, 32, 33] (by decide +kernel) (by decide +kernel)
set_option maxRecDepth 20000 in
theorem gX1_layDepths_X1_leastDepth : GoodIn wsX1_layDepths (wsV RX1 156 RX1 yX1_leastDepth wsX1_leastDepth) := goodIn_app (goodIn_of _ (by decide +kernel)) ggX1_layDepths_X1_leastDepth
theorem dX1_layDepths_0 : decode cX1_layDepths 0 = .ok (.iload_n 2, 1) := by decide +kernel
theorem dX1_layDepths_1 : decode cX1_layDepths 1 = .ok (.istore 4, 2) := by decide +kernel
theorem dX1_layDepths_3 : decode cX1_layDepths 3 = .ok (.iload_n 1, 1) := by decide +kernel
theorem dX1_layDepths_4 : decode cX1_layDepths 4 = .ok (.istore 5, 2) := by decide +kernel
theorem dX1_layDepths_6 : decode cX1_layDepths 6 = .ok (.iconst 1, 1) := by decide +kernel
theorem dX1_layDepths_7 : decode cX1_layDepths 7 = .ok (.istore 6, 2) := by decide +kernel
theorem dX1_layDepths_9 : decode cX1_layDepths 9 = .ok (.iload 6, 2) := by decide +kernel
theorem dX1_layDepths_11 : decode cX1_layDepths 11 = .ok (.bipush 8, 2) := by decide +kernel
theorem dX1_layDepths_13 : decode cX1_layDepths 13 = .ok (.if_icmp .ge 77, 3) := by decide +kernel
theorem dX1_layDepths_16 : decode cX1_layDepths 16 = .ok (.aload_n 3, 1) := by decide +kernel
theorem dX1_layDepths_17 : decode cX1_layDepths 17 = .ok (.iload 6, 2) := by decide +kernel
theorem dX1_layDepths_19 : decode cX1_layDepths 19 = .ok (.iconst 0, 1) := by decide +kernel
theorem dX1_layDepths_20 : decode cX1_layDepths 20 = .ok (.iastore, 1) := by decide +kernel
theorem dX1_layDepths_21 : decode cX1_layDepths 21 = .ok (.iload 5, 2) := by decide +kernel
theorem dX1_layDepths_23 : decode cX1_layDepths 23 = .ok (.iload 6, 2) := by decide +kernel
theorem dX1_layDepths_25 : decode cX1_layDepths 25 = .ok (.invokestatic 72, 3) := by decide +kernel
theorem dX1_layDepths_28 : decode cX1_layDepths 28 = .ok (.iand, 1) := by decide +kernel
theorem dX1_layDepths_29 : decode cX1_layDepths 29 = .ok (.ifCond .eq 55, 3) := by decide +kernel
theorem dX1_layDepths_32 : decode cX1_layDepths 32 = .ok (.aload_n 0, 1) := by decide +kernel
theorem dX1_layDepths_33 : decode cX1_layDepths 33 = .ok (.getfield 32, 3) := by decide +kernel
theorem dX1_layDepths_36 : decode cX1_layDepths 36 = .ok (.iload 5, 2) := by decide +kernel
theorem dX1_layDepths_38 : decode cX1_layDepths 38 = .ok (.bipush 29, 2) := by decide +kernel
theorem dX1_layDepths_40 : decode cX1_layDepths 40 = .ok (.imul, 1) := by decide +kernel
theorem dX1_layDepths_41 : decode cX1_layDepths 41 = .ok (.iload 4, 2) := by decide +kernel
theorem dX1_layDepths_43 : decode cX1_layDepths 43 = .ok (.iadd, 1) := by decide +kernel
theorem dX1_layDepths_44 : decode cX1_layDepths 44 = .ok (.laload, 1) := by decide +kernel
theorem dX1_layDepths_45 : decode cX1_layDepths 45 = .ok (.lstore 7, 2) := by decide +kernel
theorem dX1_layDepths_47 : decode cX1_layDepths 47 = .ok (.iload 5, 2) := by decide +kernel
theorem dX1_layDepths_49 : decode cX1_layDepths 49 = .ok (.iload 6, 2) := by decide +kernel
theorem dX1_layDepths_51 : decode cX1_layDepths 51 = .ok (.invokestatic 72, 3) := by decide +kernel
theorem dX1_layDepths_54 : decode cX1_layDepths 54 = .ok (.iconst (-1), 1) := by decide +kernel
theorem dX1_layDepths_55 : decode cX1_layDepths 55 = .ok (.ixor, 1) := by decide +kernel
theorem dX1_layDepths_56 : decode cX1_layDepths 56 = .ok (.iand, 1) := by decide +kernel
theorem dX1_layDepths_57 : decode cX1_layDepths 57 = .ok (.istore 5, 2) := by decide +kernel
theorem dX1_layDepths_59 : decode cX1_layDepths 59 = .ok (.aload_n 3, 1) := by decide +kernel
theorem dX1_layDepths_60 : decode cX1_layDepths 60 = .ok (.iload 6, 2) := by decide +kernel
theorem dX1_layDepths_62 : decode cX1_layDepths 62 = .ok (.aload_n 0, 1) := by decide +kernel
theorem dX1_layDepths_63 : decode cX1_layDepths 63 = .ok (.iload 5, 2) := by decide +kernel
theorem dX1_layDepths_65 : decode cX1_layDepths 65 = .ok (.iload 4, 2) := by decide +kernel
theorem dX1_layDepths_67 : decode cX1_layDepths 67 = .ok (.iload 6, 2) := by decide +kernel
theorem dX1_layDepths_69 : decode cX1_layDepths 69 = .ok (.lload 7, 2) := by decide +kernel
theorem dX1_layDepths_71 : decode cX1_layDepths 71 = .ok (.invokevirtual 156, 3) := by decide +kernel
theorem dX1_layDepths_74 : decode cX1_layDepths 74 = .ok (.iastore, 1) := by decide +kernel
theorem dX1_layDepths_75 : decode cX1_layDepths 75 = .ok (.iload 4, 2) := by decide +kernel
theorem dX1_layDepths_77 : decode cX1_layDepths 77 = .ok (.aload_n 3, 1) := by decide +kernel
theorem dX1_layDepths_78 : decode cX1_layDepths 78 = .ok (.iload 6, 2) := by decide +kernel
theorem dX1_layDepths_80 : decode cX1_layDepths 80 = .ok (.iaload, 1) := by decide +kernel
theorem dX1_layDepths_81 : decode cX1_layDepths 81 = .ok (.isub, 1) := by decide +kernel
theorem dX1_layDepths_82 : decode cX1_layDepths 82 = .ok (.istore 4, 2) := by decide +kernel
theorem dX1_layDepths_84 : decode cX1_layDepths 84 = .ok (.iinc 6 1, 3) := by decide +kernel
theorem dX1_layDepths_87 : decode cX1_layDepths 87 = .ok (.goto (-78), 3) := by decide +kernel
theorem dX1_layDepths_90 : decode cX1_layDepths 90 = .ok (.return_, 1) := by decide +kernel
set_option maxRecDepth 20000 in
theorem ggX1_leastDepth_X1_worthWith : GoodIn wsX1_leastDepth wsX1_worthWith := goodIn_r _ [9, 10, 11, 12, 13, 14, 15, 16, 17, 18, 19, 20, 21, 22, 23, 24, 25, 26] (by decide +kernel) (by decide +kernel)
set_option maxRecDepth 20000 in
theorem gX1_leastDepth_X1_worthWith : GoodIn wsX1_leastDepth (wsV RX1 127 RX1 yX1_worthWith wsX1_worthWith) := goodIn_app (goodIn_of _ (by decide +kernel)) ggX1_leastDepth_X1_worthWith
theorem dX1_leastDepth_0 : decode cX1_leastDepth 0 = .ok (.iconst 1, 1) := by decide +kernel
theorem dX1_leastDepth_1 : decode cX1_leastDepth 1 = .ok (.istore 6, 2) := by decide +kernel
theorem dX1_leastDepth_3 : decode cX1_leastDepth 3 = .ok (.iload 6, 2) := by decide +kernel
theorem dX1_leastDepth_5 : decode cX1_leastDepth 5 = .ok (.iconst 4, 1) := by decide +kernel
theorem dX1_leastDepth_6 : decode cX1_leastDepth 6 = .ok (.if_icmp .ge 36, 3) := by decide +kernel
theorem dX1_leastDepth_9 : decode cX1_leastDepth 9 = .ok (.iload 6, 2) := by decide +kernel
theorem dX1_leastDepth_11 : decode cX1_leastDepth 11 = .ok (.iload_n 2, 1) := by decide +kernel
theorem dX1_leastDepth_12 : decode cX1_leastDepth 12 = .ok (.if_icmp .ge 30, 3) := by decide +kernel
theorem dX1_leastDepth_15 : decode cX1_leastDepth 15 = .ok (.aload_n 0, 1) := by decide +kernel
theorem dX1_leastDepth_16 : decode cX1_leastDepth 16 = .ok (.iload_n 1, 1) := by decide +kernel
theorem dX1_leastDepth_17 : decode cX1_leastDepth 17 = .ok (.iload_n 2, 1) := by decide +kernel
theorem dX1_leastDepth_18 : decode cX1_leastDepth 18 = .ok (.iload 6, 2) := by decide +kernel
theorem dX1_leastDepth_20 : decode cX1_leastDepth 20 = .ok (.isub, 1) := by decide +kernel
theorem dX1_leastDepth_21 : decode cX1_leastDepth 21 = .ok (.iload_n 3, 1) := by decide +kernel
theorem dX1_leastDepth_22 : decode cX1_leastDepth 22 = .ok (.iload 6, 2) := by decide +kernel
theorem dX1_leastDepth_24 : decode cX1_leastDepth 24 = .ok (.invokevirtual 127, 3) := by decide +kernel
theorem dX1_leastDepth_27 : decode cX1_leastDepth 27 = .ok (.lload 4, 2) := by decide +kernel
theorem dX1_leastDepth_29 : decode cX1_leastDepth 29 = .ok (.lcmp, 1) := by decide +kernel
theorem dX1_leastDepth_30 : decode cX1_leastDepth 30 = .ok (.ifCond .ne 6, 3) := by decide +kernel
theorem dX1_leastDepth_33 : decode cX1_leastDepth 33 = .ok (.iload 6, 2) := by decide +kernel
theorem dX1_leastDepth_35 : decode cX1_leastDepth 35 = .ok (.ireturn, 1) := by decide +kernel
theorem dX1_leastDepth_36 : decode cX1_leastDepth 36 = .ok (.iinc 6 1, 3) := by decide +kernel
theorem dX1_leastDepth_39 : decode cX1_leastDepth 39 = .ok (.goto (-36), 3) := by decide +kernel
theorem dX1_leastDepth_42 : decode cX1_leastDepth 42 = .ok (.iconst 4, 1) := by decide +kernel
theorem dX1_leastDepth_43 : decode cX1_leastDepth 43 = .ok (.iload_n 2, 1) := by decide +kernel
theorem dX1_leastDepth_44 : decode cX1_leastDepth 44 = .ok (.invokestatic 110, 3) := by decide +kernel
theorem dX1_leastDepth_47 : decode cX1_leastDepth 47 = .ok (.ireturn, 1) := by decide +kernel
set_option maxRecDepth 20000 in
theorem ggX1_layOrder_X1_firstStop : GoodIn wsX1_layOrder wsX1_firstStop := goodIn_r _ [8, 9, 10, 11, 7, 12, 13, 14, 15, 16, 17, 18, 19, 20, 21, 22, 23, 24, 25, 26, 27, 28, 29, 30, 31, 32, 33, 34] (by decide +kernel) (by decide +kernel)
set_option maxRecDepth 20000 in
theorem gX1_layOrder_X1_firstStop : GoodIn wsX1_layOrder (wsV RX1 160 RX1 yX1_firstStop wsX1_firstStop) := goodIn_app (goodIn_of _ (by decide +kernel)) ggX1_layOrder_X1_firstStop
set_option maxRecDepth 20000 in
theorem ggX1_layOrder_X1_bit : GoodIn wsX1_layOrder wsX1_bit := goodIn_r _ [12] (by decide +kernel) (by decide +kernel)
set_option maxRecDepth 20000 in
theorem gX1_layOrder_X1_bit : GoodIn wsX1_layOrder (va_wsS RX1 72 yX1_bit wsX1_bit) := goodIn_app (goodIn_of _ (by decide +kernel)) ggX1_layOrder_X1_bit
theorem dX1_layOrder_0 : decode cX1_layOrder 0 = .ok (.iload_n 1, 1) := by decide +kernel
theorem dX1_layOrder_1 : decode cX1_layOrder 1 = .ok (.istore_n 2, 1) := by decide +kernel
theorem dX1_layOrder_2 : decode cX1_layOrder 2 = .ok (.aload_n 0, 1) := by decide +kernel
theorem dX1_layOrder_3 : decode cX1_layOrder 3 = .ok (.getfield 43, 3) := by decide +kernel
theorem dX1_layOrder_6 : decode cX1_layOrder 6 = .ok (.istore_n 3, 1) := by decide +kernel
theorem dX1_layOrder_7 : decode cX1_layOrder 7 = .ok (.iconst 0, 1) := by decide +kernel
theorem dX1_layOrder_8 : decode cX1_layOrder 8 = .ok (.istore 4, 2) := by decide +kernel
theorem dX1_layOrder_10 : decode cX1_layOrder 10 = .ok (.iload 4, 2) := by decide +kernel
theorem dX1_layOrder_12 : decode cX1_layOrder 12 = .ok (.aload_n 0, 1) := by decide +kernel
theorem dX1_layOrder_13 : decode cX1_layOrder 13 = .ok (.getfield 52, 3) := by decide +kernel
theorem dX1_layOrder_16 : decode cX1_layOrder 16 = .ok (.if_icmp .ge 39, 3) := by decide +kernel
theorem dX1_layOrder_19 : decode cX1_layOrder 19 = .ok (.aload_n 0, 1) := by decide +kernel
theorem dX1_layOrder_20 : decode cX1_layOrder 20 = .ok (.iload_n 3, 1) := by decide +kernel
theorem dX1_layOrder_21 : decode cX1_layOrder 21 = .ok (.iload_n 2, 1) := by decide +kernel
theorem dX1_layOrder_22 : decode cX1_layOrder 22 = .ok (.invokevirtual 160, 3) := by decide +kernel
theorem dX1_layOrder_25 : decode cX1_layOrder 25 = .ok (.istore 5, 2) := by decide +kernel
theorem dX1_layOrder_27 : decode cX1_layOrder 27 = .ok (.aload_n 0, 1) := by decide +kernel
theorem dX1_layOrder_28 : decode cX1_layOrder 28 = .ok (.getfield 61, 3) := by decide +kernel
theorem dX1_layOrder_31 : decode cX1_layOrder 31 = .ok (.iload 4, 2) := by decide +kernel
theorem dX1_layOrder_33 : decode cX1_layOrder 33 = .ok (.iload 5, 2) := by decide +kernel
theorem dX1_layOrder_35 : decode cX1_layOrder 35 = .ok (.iastore, 1) := by decide +kernel
theorem dX1_layOrder_36 : decode cX1_layOrder 36 = .ok (.iload_n 3, 1) := by decide +kernel
theorem dX1_layOrder_37 : decode cX1_layOrder 37 = .ok (.iload 5, 2) := by decide +kernel
theorem dX1_layOrder_39 : decode cX1_layOrder 39 = .ok (.invokestatic 72, 3) := by decide +kernel
theorem dX1_layOrder_42 : decode cX1_layOrder 42 = .ok (.iconst (-1), 1) := by decide +kernel
theorem dX1_layOrder_43 : decode cX1_layOrder 43 = .ok (.ixor, 1) := by decide +kernel
theorem dX1_layOrder_44 : decode cX1_layOrder 44 = .ok (.iand, 1) := by decide +kernel
theorem dX1_layOrder_45 : decode cX1_layOrder 45 = .ok (.istore_n 3, 1) := by decide +kernel
theorem dX1_layOrder_46 : decode cX1_layOrder 46 = .ok (.iload 5, 2) := by decide +kernel
theorem dX1_layOrder_48 : decode cX1_layOrder 48 = .ok (.istore_n 2, 1) := by decide +kernel
theorem dX1_layOrder_49 : decode cX1_layOrder 49 = .ok (.iinc 4 1, 3) := by decide +kernel
theorem dX1_layOrder_52 : decode cX1_layOrder 52 = .ok (.goto (-42), 3) := by decide +kernel
theorem dX1_layOrder_55 : decode cX1_layOrder 55 = .ok (.return_, 1) := by decide +kernel
set_option maxRecDepth 20000 in
theorem ggX1_firstStop_X1_bit : GoodIn wsX1_firstStop wsX1_bit := goodIn_r _ [5] (by decide +kernel) (by decide +kernel)
set_option maxRecDepth 20000 in
theorem gX1_firstStop_X1_bit : GoodIn wsX1_firstStop (va_wsS RX1 72 yX1_bit wsX1_bit) := goodIn_app (goodIn_of _ (by decide +kernel)) ggX1_firstStop_X1_bit
set_option maxRecDepth 20000 in
theorem ggX1_firstStop_X1_roadBy : GoodIn wsX1_firstStop wsX1_roadBy := goodIn_r _ [9, 10, 1, 2, 3, 4, 5, 14, 15, 16, 17, 18, 19, 20, 21, 22, 23, 24, 25, 26, 27] (by decide +kernel) (by decide +kernel)
set_option maxRecDepth 20000 in
theorem gX1_firstStop_X1_roadBy : GoodIn wsX1_firstStop (wsV RX1 107 RX1 yX1_roadBy wsX1_roadBy) := goodIn_app (goodIn_of _ (by decide +kernel)) ggX1_firstStop_X1_roadBy
set_option maxRecDepth 20000 in
theorem ggX1_firstStop_X1_firstOf : GoodIn wsX1_firstStop wsX1_firstOf := goodIn_r _ [13, 2, 3, 4, 5] (by decide +kernel) (by decide +kernel)
set_option maxRecDepth 20000 in
theorem gX1_firstStop_X1_firstOf : GoodIn wsX1_firstStop (va_wsS RX1 120 yX1_firstOf wsX1_firstOf) := goodIn_app (goodIn_of _ (by decide +kernel)) ggX1_firstStop_X1_firstOf
theorem dX1_firstStop_0 : decode cX1_firstStop 0 = .ok (.aload_n 0, 1) := by decide +kernel
theorem dX1_firstStop_1 : decode cX1_firstStop 1 = .ok (.getfield 25, 3) := by decide +kernel
theorem dX1_firstStop_4 : decode cX1_firstStop 4 = .ok (.iload_n 1, 1) := by decide +kernel
theorem dX1_firstStop_5 : decode cX1_firstStop 5 = .ok (.bipush 8, 2) := by decide +kernel
theorem dX1_firstStop_7 : decode cX1_firstStop 7 = .ok (.imul, 1) := by decide +kernel
theorem dX1_firstStop_8 : decode cX1_firstStop 8 = .ok (.iload_n 2, 1) := by decide +kernel
theorem dX1_firstStop_9 : decode cX1_firstStop 9 = .ok (.iadd, 1) := by decide +kernel
theorem dX1_firstStop_10 : decode cX1_firstStop 10 = .ok (.iaload, 1) := by decide +kernel
theorem dX1_firstStop_11 : decode cX1_firstStop 11 = .ok (.istore_n 3, 1) := by decide +kernel
theorem dX1_firstStop_12 : decode cX1_firstStop 12 = .ok (.iconst 1, 1) := by decide +kernel
theorem dX1_firstStop_13 : decode cX1_firstStop 13 = .ok (.istore 4, 2) := by decide +kernel
theorem dX1_firstStop_15 : decode cX1_firstStop 15 = .ok (.iload 4, 2) := by decide +kernel
theorem dX1_firstStop_17 : decode cX1_firstStop 17 = .ok (.bipush 8, 2) := by decide +kernel
theorem dX1_firstStop_19 : decode cX1_firstStop 19 = .ok (.if_icmp .ge 34, 3) := by decide +kernel
theorem dX1_firstStop_22 : decode cX1_firstStop 22 = .ok (.iload_n 1, 1) := by decide +kernel
theorem dX1_firstStop_23 : decode cX1_firstStop 23 = .ok (.iload 4, 2) := by decide +kernel
theorem dX1_firstStop_25 : decode cX1_firstStop 25 = .ok (.invokestatic 72, 3) := by decide +kernel
theorem dX1_firstStop_28 : decode cX1_firstStop 28 = .ok (.iand, 1) := by decide +kernel
theorem dX1_firstStop_29 : decode cX1_firstStop 29 = .ok (.ifCond .eq 18, 3) := by decide +kernel
theorem dX1_firstStop_32 : decode cX1_firstStop 32 = .ok (.aload_n 0, 1) := by decide +kernel
theorem dX1_firstStop_33 : decode cX1_firstStop 33 = .ok (.iload_n 1, 1) := by decide +kernel
theorem dX1_firstStop_34 : decode cX1_firstStop 34 = .ok (.iload_n 2, 1) := by decide +kernel
theorem dX1_firstStop_35 : decode cX1_firstStop 35 = .ok (.iload 4, 2) := by decide +kernel
theorem dX1_firstStop_37 : decode cX1_firstStop 37 = .ok (.invokevirtual 107, 3) := by decide +kernel
theorem dX1_firstStop_40 : decode cX1_firstStop 40 = .ok (.iload_n 3, 1) := by decide +kernel
theorem dX1_firstStop_41 : decode cX1_firstStop 41 = .ok (.if_icmp .ne 6, 3) := by decide +kernel
theorem dX1_firstStop_44 : decode cX1_firstStop 44 = .ok (.iload 4, 2) := by decide +kernel
theorem dX1_firstStop_46 : decode cX1_firstStop 46 = .ok (.ireturn, 1) := by decide +kernel
theorem dX1_firstStop_47 : decode cX1_firstStop 47 = .ok (.iinc 4 1, 3) := by decide +kernel
theorem dX1_firstStop_50 : decode cX1_firstStop 50 = .ok (.goto (-35), 3) := by decide +kernel
theorem dX1_firstStop_53 : decode cX1_firstStop 53 = .ok (.iload_n 1, 1) := by decide +kernel
theorem dX1_firstStop_54 : decode cX1_firstStop 54 = .ok (.invokestatic 120, 3) := by decide +kernel
theorem dX1_firstStop_57 : decode cX1_firstStop 57 = .ok (.ireturn, 1) := by decide +kernel
theorem dX1_isAdmitted_0 : decode cX1_isAdmitted 0 = .ok (.iload_n 1, 1) := by decide +kernel
theorem dX1_isAdmitted_1 : decode cX1_isAdmitted 1 = .ok (.aload_n 0, 1) := by decide +kernel
theorem dX1_isAdmitted_2 : decode cX1_isAdmitted 2 = .ok (.getfield 15, 3) := by decide +kernel
theorem dX1_isAdmitted_5 : decode cX1_isAdmitted 5 = .ok (.iconst (-1), 1) := by decide +kernel
theorem dX1_isAdmitted_6 : decode cX1_isAdmitted 6 = .ok (.ixor, 1) := by decide +kernel
theorem dX1_isAdmitted_7 : decode cX1_isAdmitted 7 = .ok (.iand, 1) := by decide +kernel
theorem dX1_isAdmitted_8 : decode cX1_isAdmitted 8 = .ok (.ifCond .ne 7, 3) := by decide +kernel
theorem dX1_isAdmitted_11 : decode cX1_isAdmitted 11 = .ok (.iconst 1, 1) := by decide +kernel
theorem dX1_isAdmitted_12 : decode cX1_isAdmitted 12 = .ok (.goto 4, 3) := by decide +kernel
theorem dX1_isAdmitted_15 : decode cX1_isAdmitted 15 = .ok (.iconst 0, 1) := by decide +kernel
theorem dX1_isAdmitted_16 : decode cX1_isAdmitted 16 = .ok (.ireturn, 1) := by decide +kernel
theorem dX1_bit_0 : decode cX1_bit 0 = .ok (.iconst 1, 1) := by decide +kernel
theorem dX1_bit_1 : decode cX1_bit 1 = .ok (.iload_n 0, 1) := by decide +kernel
theorem dX1_bit_2 : decode cX1_bit 2 = .ok (.iconst 1, 1) := by decide +kernel
theorem dX1_bit_3 : decode cX1_bit 3 = .ok (.isub, 1) := by decide +kernel
theorem dX1_bit_4 : decode cX1_bit 4 = .ok (.ishl, 1) := by decide +kernel
theorem dX1_bit_5 : decode cX1_bit 5 = .ok (.ireturn, 1) := by decide +kernel
set_option maxRecDepth 20000 in
theorem ggX1_firstOf_X1_bit : GoodIn wsX1_firstOf wsX1_bit := goodIn_r _ [4] (by decide +kernel) (by decide +kernel)
set_option maxRecDepth 20000 in
theorem gX1_firstOf_X1_bit : GoodIn wsX1_firstOf (va_wsS RX1 72 yX1_bit wsX1_bit) := goodIn_app (goodIn_of _ (by decide +kernel)) ggX1_firstOf_X1_bit
theorem dX1_firstOf_0 : decode cX1_firstOf 0 = .ok (.iconst 1, 1) := by decide +kernel
theorem dX1_firstOf_1 : decode cX1_firstOf 1 = .ok (.istore_n 1, 1) := by decide +kernel
theorem dX1_firstOf_2 : decode cX1_firstOf 2 = .ok (.iload_n 1, 1) := by decide +kernel
theorem dX1_firstOf_3 : decode cX1_firstOf 3 = .ok (.bipush 7, 2) := by decide +kernel
theorem dX1_firstOf_5 : decode cX1_firstOf 5 = .ok (.if_icmp .ge 18, 3) := by decide +kernel
theorem dX1_firstOf_8 : decode cX1_firstOf 8 = .ok (.iload_n 0, 1) := by decide +kernel
theorem dX1_firstOf_9 : decode cX1_firstOf 9 = .ok (.iload_n 1, 1) := by decide +kernel
theorem dX1_firstOf_10 : decode cX1_firstOf 10 = .ok (.invokestatic 72, 3) := by decide +kernel
theorem dX1_firstOf_13 : decode cX1_firstOf 13 = .ok (.iand, 1) := by decide +kernel
theorem dX1_firstOf_14 : decode cX1_firstOf 14 = .ok (.ifCond .ne 9, 3) := by decide +kernel
theorem dX1_firstOf_17 : decode cX1_firstOf 17 = .ok (.iinc 1 1, 3) := by decide +kernel
theorem dX1_firstOf_20 : decode cX1_firstOf 20 = .ok (.goto (-18), 3) := by decide +kernel
theorem dX1_firstOf_23 : decode cX1_firstOf 23 = .ok (.iload_n 1, 1) := by decide +kernel
theorem dX1_firstOf_24 : decode cX1_firstOf 24 = .ok (.ireturn, 1) := by decide +kernel
theorem dX2_init_0 : decode cX2_init 0 = .ok (.aload_n 0, 1) := by decide +kernel
theorem dX2_init_1 : decode cX2_init 1 = .ok (.invokespecial 3, 3) := by decide +kernel
theorem dX2_init_4 : decode cX2_init 4 = .ok (.aload_n 0, 1) := by decide +kernel
theorem dX2_init_5 : decode cX2_init 5 = .ok (.bipush 12, 2) := by decide +kernel
theorem dX2_init_7 : decode cX2_init 7 = .ok (.newarray .int, 2) := by decide +kernel
theorem dX2_init_9 : decode cX2_init 9 = .ok (.putfield 11, 3) := by decide +kernel
theorem dX2_init_12 : decode cX2_init 12 = .ok (.aload_n 0, 1) := by decide +kernel
theorem dX2_init_13 : decode cX2_init 13 = .ok (.bipush 12, 2) := by decide +kernel
theorem dX2_init_15 : decode cX2_init 15 = .ok (.newarray .int, 2) := by decide +kernel
theorem dX2_init_17 : decode cX2_init 17 = .ok (.putfield 15, 3) := by decide +kernel
