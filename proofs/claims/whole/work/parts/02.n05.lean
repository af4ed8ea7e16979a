theorem dX6_planned_0 : decode cX6_planned 0 = .ok (.aload_n 0, 1) := by decide +kernel
theorem dX6_planned_1 : decode cX6_planned 1 = .ok (.getfield 47, 3) := by decide +kernel
theorem dX6_planned_4 : decode cX6_planned 4 = .ok (.iload_n 1, 1) := by decide +kernel
theorem dX6_planned_5 : decode cX6_planned 5 = .ok (.iload_n 2, 1) := by decide +kernel
theorem dX6_planned_6 : decode cX6_planned 6 = .ok (.invokevirtual 188, 3) := by decide +kernel
theorem dX6_planned_9 : decode cX6_planned 9 = .ok (.ireturn, 1) := by decide +kernel
set_option maxRecDepth 20000 in
theorem ggX6_visit_X4_has : GoodIn wsX6_visit wsX4_has := goodIn_r _ [6, 7, 34, 35, 36, 37, 38, 39, 40] (by decide +kernel) (by decide +kernel)
set_option maxRecDepth 20000 in
theorem gX6_visit_X4_has : GoodIn wsX6_visit (wsV RX6 119 RX4 yX4_has wsX4_has) := goodIn_app (goodIn_of _ (by decide +kernel)) ggX6_visit_X4_has
set_option maxRecDepth 20000 in
theorem ggX6_visit_X4_hasWell : GoodIn wsX6_visit wsX4_hasWell := goodIn_r _ [11, 12, 34, 35, 36, 37, 38, 39, 40] (by decide +kernel) (by decide +kernel)
set_option maxRecDepth 20000 in
theorem gX6_visit_X4_hasWell : GoodIn wsX6_visit (wsV RX6 120 RX4 yX4_hasWell wsX4_hasWell) := goodIn_app (goodIn_of _ (by decide +kernel)) ggX6_visit_X4_hasWell
set_option maxRecDepth 20000 in
theorem ggX6_visit_X4_isAge : GoodIn wsX6_visit wsX4_isAge := goodIn_r _ [15] (by decide +kernel) (by decide +kernel)
set_option maxRecDepth 20000 in
theorem gX6_visit_X4_isAge : GoodIn wsX6_visit (va_wsS RX6 191 yX4_isAge wsX4_isAge) := goodIn_app (goodIn_of _ (by decide +kernel)) ggX6_visit_X4_isAge
set_option maxRecDepth 20000 in
theorem ggX6_visit_X4_addVisit : GoodIn wsX6_visit wsX4_addVisit := goodIn_r _ [19, 20, 21, 22, 23, 24, 25, 34, 35, 36, 37, 38, 39, 40] (by decide +kernel) (by decide +kernel)
set_option maxRecDepth 20000 in
theorem gX6_visit_X4_addVisit : GoodIn wsX6_visit (wsV RX6 194 RX4 yX4_addVisit wsX4_addVisit) := goodIn_app (goodIn_of _ (by decide +kernel)) ggX6_visit_X4_addVisit
theorem dX6_visit_0 : decode cX6_visit 0 = .ok (.aload_n 0, 1) := by decide +kernel
theorem dX6_visit_1 : decode cX6_visit 1 = .ok (.getfield 33, 3) := by decide +kernel
theorem dX6_visit_4 : decode cX6_visit 4 = .ok (.iload_n 1, 1) := by decide +kernel
theorem dX6_visit_5 : decode cX6_visit 5 = .ok (.invokevirtual 119, 3) := by decide +kernel
theorem dX6_visit_8 : decode cX6_visit 8 = .ok (.ifCond .eq 21, 3) := by decide +kernel
theorem dX6_visit_11 : decode cX6_visit 11 = .ok (.aload_n 0, 1) := by decide +kernel
theorem dX6_visit_12 : decode cX6_visit 12 = .ok (.getfield 33, 3) := by decide +kernel
theorem dX6_visit_15 : decode cX6_visit 15 = .ok (.iload_n 1, 1) := by decide +kernel
theorem dX6_visit_16 : decode cX6_visit 16 = .ok (.invokevirtual 120, 3) := by decide +kernel
theorem dX6_visit_19 : decode cX6_visit 19 = .ok (.ifCond .eq 10, 3) := by decide +kernel
theorem dX6_visit_22 : decode cX6_visit 22 = .ok (.iload_n 2, 1) := by decide +kernel
theorem dX6_visit_23 : decode cX6_visit 23 = .ok (.invokestatic 191, 3) := by decide +kernel
theorem dX6_visit_26 : decode cX6_visit 26 = .ok (.ifCond .ne 5, 3) := by decide +kernel
theorem dX6_visit_29 : decode cX6_visit 29 = .ok (.iconst 0, 1) := by decide +kernel
theorem dX6_visit_30 : decode cX6_visit 30 = .ok (.ireturn, 1) := by decide +kernel
theorem dX6_visit_31 : decode cX6_visit 31 = .ok (.aload_n 0, 1) := by decide +kernel
theorem dX6_visit_32 : decode cX6_visit 32 = .ok (.getfield 33, 3) := by decide +kernel
theorem dX6_visit_35 : decode cX6_visit 35 = .ok (.iload_n 1, 1) := by decide +kernel
theorem dX6_visit_36 : decode cX6_visit 36 = .ok (.iload_n 2, 1) := by decide +kernel
theorem dX6_visit_37 : decode cX6_visit 37 = .ok (.iload_n 3, 1) := by decide +kernel
theorem dX6_visit_38 : decode cX6_visit 38 = .ok (.invokevirtual 194, 3) := by decide +kernel
theorem dX6_visit_41 : decode cX6_visit 41 = .ok (.iconst 1, 1) := by decide +kernel
theorem dX6_visit_42 : decode cX6_visit 42 = .ok (.ireturn, 1) := by decide +kernel
set_option maxRecDepth 20000 in
theorem ggX6_still_X4_isAge : GoodIn wsX6_still wsX4_isAge := goodIn_r _ [6] (by decide +kernel) (by decide +kernel)
set_option maxRecDepth 20000 in
theorem gX6_still_X4_isAge : GoodIn wsX6_still (va_wsS RX6 191 yX4_isAge wsX4_isAge) := goodIn_app (goodIn_of _ (by decide +kernel)) ggX6_still_X4_isAge
set_option maxRecDepth 20000 in
theorem ggX6_still_X4_endsAt : GoodIn wsX6_still wsX4_endsAt := goodIn_r _ [10, 11, 12, 33, 34, 35, 36, 37, 38, 39] (by decide +kernel) (by decide +kernel)
set_option maxRecDepth 20000 in
theorem gX6_still_X4_endsAt : GoodIn wsX6_still (wsV RX6 197 RX4 yX4_endsAt wsX4_endsAt) := goodIn_app (goodIn_of _ (by decide +kernel)) ggX6_still_X4_endsAt
set_option maxRecDepth 20000 in
theorem ggX6_still_X4_knownUpTo : GoodIn wsX6_still wsX4_knownUpTo := goodIn_r _ [16, 11, 12, 17, 33, 34, 35, 36, 37, 38, 39] (by decide +kernel) (by decide +kernel)
set_option maxRecDepth 20000 in
theorem gX6_still_X4_knownUpTo : GoodIn wsX6_still (wsV RX6 200 RX4 yX4_knownUpTo wsX4_knownUpTo) := goodIn_app (goodIn_of _ (by decide +kernel)) ggX6_still_X4_knownUpTo
set_option maxRecDepth 20000 in
theorem ggX6_still_X6_leastTerm : GoodIn wsX6_still wsX6_leastTerm := goodIn_r _ [21, 1, 22, 23, 20, 24] (by decide +kernel) (by decide +kernel)
set_option maxRecDepth 20000 in
theorem gX6_still_X6_leastTerm : GoodIn wsX6_still (va_wsS RX6 156 yX6_leastTerm wsX6_leastTerm) := goodIn_app (goodIn_of _ (by decide +kernel)) ggX6_still_X6_leastTerm
theorem dX6_still_0 : decode cX6_still 0 = .ok (.iload_n 1, 1) := by decide +kernel
theorem dX6_still_1 : decode cX6_still 1 = .ok (.invokestatic 191, 3) := by decide +kernel
theorem dX6_still_4 : decode cX6_still 4 = .ok (.ifCond .eq 12, 3) := by decide +kernel
theorem dX6_still_7 : decode cX6_still 7 = .ok (.iload_n 2, 1) := by decide +kernel
theorem dX6_still_8 : decode cX6_still 8 = .ok (.ifCond .lt 8, 3) := by decide +kernel
theorem dX6_still_11 : decode cX6_still 11 = .ok (.iload_n 2, 1) := by decide +kernel
theorem dX6_still_12 : decode cX6_still 12 = .ok (.iconst 1, 1) := by decide +kernel
theorem dX6_still_13 : decode cX6_still 13 = .ok (.if_icmp .le 7, 3) := by decide +kernel
theorem dX6_still_16 : decode cX6_still 16 = .ok (.ldc2_w 146, 3) := by decide +kernel
theorem dX6_still_19 : decode cX6_still 19 = .ok (.lreturn, 1) := by decide +kernel
theorem dX6_still_20 : decode cX6_still 20 = .ok (.lconst 1, 1) := by decide +kernel
theorem dX6_still_21 : decode cX6_still 21 = .ok (.lstore_n 3, 1) := by decide +kernel
theorem dX6_still_22 : decode cX6_still 22 = .ok (.lconst 1, 1) := by decide +kernel
theorem dX6_still_23 : decode cX6_still 23 = .ok (.lstore 5, 2) := by decide +kernel
theorem dX6_still_25 : decode cX6_still 25 = .ok (.iconst 1, 1) := by decide +kernel
theorem dX6_still_26 : decode cX6_still 26 = .ok (.istore 7, 2) := by decide +kernel
theorem dX6_still_28 : decode cX6_still 28 = .ok (.iload 7, 2) := by decide +kernel
theorem dX6_still_30 : decode cX6_still 30 = .ok (.iload_n 1, 1) := by decide +kernel
theorem dX6_still_31 : decode cX6_still 31 = .ok (.if_icmp .gt 53, 3) := by decide +kernel
theorem dX6_still_34 : decode cX6_still 34 = .ok (.aload_n 0, 1) := by decide +kernel
theorem dX6_still_35 : decode cX6_still 35 = .ok (.getfield 33, 3) := by decide +kernel
theorem dX6_still_38 : decode cX6_still 38 = .ok (.iload 7, 2) := by decide +kernel
theorem dX6_still_40 : decode cX6_still 40 = .ok (.invokevirtual 197, 3) := by decide +kernel
theorem dX6_still_43 : decode cX6_still 43 = .ok (.istore 8, 2) := by decide +kernel
theorem dX6_still_45 : decode cX6_still 45 = .ok (.iload 8, 2) := by decide +kernel
theorem dX6_still_47 : decode cX6_still 47 = .ok (.ifCond .le 31, 3) := by decide +kernel
theorem dX6_still_50 : decode cX6_still 50 = .ok (.aload_n 0, 1) := by decide +kernel
theorem dX6_still_51 : decode cX6_still 51 = .ok (.getfield 33, 3) := by decide +kernel
theorem dX6_still_54 : decode cX6_still 54 = .ok (.iload 7, 2) := by decide +kernel
theorem dX6_still_56 : decode cX6_still 56 = .ok (.invokevirtual 200, 3) := by decide +kernel
theorem dX6_still_59 : decode cX6_still 59 = .ok (.istore 9, 2) := by decide +kernel
theorem dX6_still_61 : decode cX6_still 61 = .ok (.lload_n 3, 1) := by decide +kernel
theorem dX6_still_62 : decode cX6_still 62 = .ok (.iload 9, 2) := by decide +kernel
theorem dX6_still_64 : decode cX6_still 64 = .ok (.iload 8, 2) := by decide +kernel
theorem dX6_still_66 : decode cX6_still 66 = .ok (.isub, 1) := by decide +kernel
theorem dX6_still_67 : decode cX6_still 67 = .ok (.i2l, 1) := by decide +kernel
theorem dX6_still_68 : decode cX6_still 68 = .ok (.lmul, 1) := by decide +kernel
theorem dX6_still_69 : decode cX6_still 69 = .ok (.lstore_n 3, 1) := by decide +kernel
theorem dX6_still_70 : decode cX6_still 70 = .ok (.lload 5, 2) := by decide +kernel
theorem dX6_still_72 : decode cX6_still 72 = .ok (.iload 9, 2) := by decide +kernel
theorem dX6_still_74 : decode cX6_still 74 = .ok (.i2l, 1) := by decide +kernel
theorem dX6_still_75 : decode cX6_still 75 = .ok (.lmul, 1) := by decide +kernel
theorem dX6_still_76 : decode cX6_still 76 = .ok (.lstore 5, 2) := by decide +kernel
theorem dX6_still_78 : decode cX6_still 78 = .ok (.iinc 7 1, 3) := by decide +kernel
theorem dX6_still_81 : decode cX6_still 81 = .ok (.goto (-53), 3) := by decide +kernel
theorem dX6_still_84 : decode cX6_still 84 = .ok (.lload_n 3, 1) := by decide +kernel
theorem dX6_still_85 : decode cX6_still 85 = .ok (.lload 5, 2) := by decide +kernel
theorem dX6_still_87 : decode cX6_still 87 = .ok (.iload_n 2, 1) := by decide +kernel
theorem dX6_still_88 : decode cX6_still 88 = .ok (.invokestatic 156, 3) := by decide +kernel
theorem dX6_still_91 : decode cX6_still 91 = .ok (.lreturn, 1) := by decide +kernel
set_option maxRecDepth 20000 in
theorem ggX6_look_X4_has : GoodIn wsX6_look wsX4_has := goodIn_r _ [11, 12, 65, 66, 67, 68, 69, 70, 71] (by decide +kernel) (by decide +kernel)
set_option maxRecDepth 20000 in
theorem gX6_look_X4_has : GoodIn wsX6_look (wsV RX6 119 RX4 yX4_has wsX4_has) := goodIn_app (goodIn_of _ (by decide +kernel)) ggX6_look_X4_has
set_option maxRecDepth 20000 in
theorem ggX6_look_X4_rockOf : GoodIn wsX6_look wsX4_rockOf := goodIn_r _ [16, 17, 65, 66, 67, 68, 69, 70, 71] (by decide +kernel) (by decide +kernel)
set_option maxRecDepth 20000 in
theorem gX6_look_X4_rockOf : GoodIn wsX6_look (wsV RX6 123 RX4 yX4_rockOf wsX4_rockOf) := goodIn_app (goodIn_of _ (by decide +kernel)) ggX6_look_X4_rockOf
set_option maxRecDepth 20000 in
theorem ggX6_look_X4_peopleOf : GoodIn wsX6_look wsX4_peopleOf := goodIn_r _ [21, 22, 65, 66, 67, 68, 69, 70, 71] (by decide +kernel) (by decide +kernel)
set_option maxRecDepth 20000 in
theorem gX6_look_X4_peopleOf : GoodIn wsX6_look (wsV RX6 210 RX4 yX4_peopleOf wsX4_peopleOf) := goodIn_app (goodIn_of _ (by decide +kernel)) ggX6_look_X4_peopleOf
set_option maxRecDepth 20000 in
theorem ggX6_look_X0_dry : GoodIn wsX6_look wsX0_dry := goodIn_r _ [27, 28, 72, 73, 74, 75, 76, 77, 78] (by decide +kernel) (by decide +kernel)
set_option maxRecDepth 20000 in
theorem gX6_look_X0_dry : GoodIn wsX6_look (wsV RX6 163 RX0 yX0_dry wsX0_dry) := goodIn_app (goodIn_of _ (by decide +kernel)) ggX6_look_X0_dry
set_option maxRecDepth 20000 in
theorem ggX6_look_X4_state : GoodIn wsX6_look wsX4_state := goodIn_r _ [32, 33, 34, 35, 36, 10, 37, 38, 65, 66, 67, 68, 69, 70, 71] (by decide +kernel) (by decide +kernel)
set_option maxRecDepth 20000 in
theorem gX6_look_X4_state : GoodIn wsX6_look (wsV RX6 213 RX4 yX4_state wsX4_state) := goodIn_app (goodIn_of _ (by decide +kernel)) ggX6_look_X4_state
set_option maxRecDepth 20000 in
theorem ggX6_look_X4_badHoles : GoodIn wsX6_look wsX4_badHoles := goodIn_r _ [42, 33, 65, 66, 67, 68, 69, 70, 71] (by decide +kernel) (by decide +kernel)
set_option maxRecDepth 20000 in
theorem gX6_look_X4_badHoles : GoodIn wsX6_look (wsV RX6 216 RX4 yX4_badHoles wsX4_badHoles) := goodIn_app (goodIn_of _ (by decide +kernel)) ggX6_look_X4_badHoles
set_option maxRecDepth 20000 in
theorem ggX6_look_X4_wellPipes : GoodIn wsX6_look wsX4_wellPipes := goodIn_r _ [46, 38, 65, 66, 67, 68, 69, 70, 71] (by decide +kernel) (by decide +kernel)
set_option maxRecDepth 20000 in
theorem gX6_look_X4_wellPipes : GoodIn wsX6_look (wsV RX6 219 RX4 yX4_wellPipes wsX4_wellPipes) := goodIn_app (goodIn_of _ (by decide +kernel)) ggX6_look_X4_wellPipes
set_option maxRecDepth 20000 in
theorem ggX6_look_X4_endAge : GoodIn wsX6_look wsX4_endAge := goodIn_r _ [50, 51, 65, 66, 67, 68, 69, 70, 71] (by decide +kernel) (by decide +kernel)
set_option maxRecDepth 20000 in
theorem gX6_look_X4_endAge : GoodIn wsX6_look (wsV RX6 222 RX4 yX4_endAge wsX4_endAge) := goodIn_app (goodIn_of _ (by decide +kernel)) ggX6_look_X4_endAge
set_option maxRecDepth 20000 in
theorem ggX6_look_X4_runAge : GoodIn wsX6_look wsX4_runAge := goodIn_r _ [55, 56, 65, 66, 67, 68, 69, 70, 71] (by decide +kernel) (by decide +kernel)
set_option maxRecDepth 20000 in
theorem gX6_look_X4_runAge : GoodIn wsX6_look (wsV RX6 225 RX4 yX4_runAge wsX4_runAge) := goodIn_app (goodIn_of _ (by decide +kernel)) ggX6_look_X4_runAge
theorem dX6_look_0 : decode cX6_look 0 = .ok (.aload_n 0, 1) := by decide +kernel
theorem dX6_look_1 : decode cX6_look 1 = .ok (.getfield 33, 3) := by decide +kernel
theorem dX6_look_4 : decode cX6_look 4 = .ok (.iload_n 1, 1) := by decide +kernel
theorem dX6_look_5 : decode cX6_look 5 = .ok (.invokevirtual 119, 3) := by decide +kernel
theorem dX6_look_8 : decode cX6_look 8 = .ok (.ifCond .ne 13, 3) := by decide +kernel
theorem dX6_look_11 : decode cX6_look 11 = .ok (.new 203, 3) := by decide +kernel
theorem dX6_look_14 : decode cX6_look 14 = .ok (.dup, 1) := by decide +kernel
theorem dX6_look_15 : decode cX6_look 15 = .ok (.ldc 205, 2) := by decide +kernel
theorem dX6_look_17 : decode cX6_look 17 = .ok (.invokespecial 207, 3) := by decide +kernel
theorem dX6_look_20 : decode cX6_look 20 = .ok (.athrow, 1) := by decide +kernel
theorem dX6_look_21 : decode cX6_look 21 = .ok (.iload_n 2, 1) := by decide +kernel
theorem dX6_look_22 : decode cX6_look 22 = .ok (.tableswitch 112 0 6 #[42, 51, 60, 76, 85, 94, 103], 42) := by decide +kernel
theorem dX6_look_64 : decode cX6_look 64 = .ok (.aload_n 0, 1) := by decide +kernel
theorem dX6_look_65 : decode cX6_look 65 = .ok (.getfield 33, 3) := by decide +kernel
theorem dX6_look_68 : decode cX6_look 68 = .ok (.iload_n 1, 1) := by decide +kernel
theorem dX6_look_69 : decode cX6_look 69 = .ok (.invokevirtual 123, 3) := by decide +kernel
theorem dX6_look_72 : decode cX6_look 72 = .ok (.ireturn, 1) := by decide +kernel
theorem dX6_look_73 : decode cX6_look 73 = .ok (.aload_n 0, 1) := by decide +kernel
theorem dX6_look_74 : decode cX6_look 74 = .ok (.getfield 33, 3) := by decide +kernel
theorem dX6_look_77 : decode cX6_look 77 = .ok (.iload_n 1, 1) := by decide +kernel
theorem dX6_look_78 : decode cX6_look 78 = .ok (.invokevirtual 210, 3) := by decide +kernel
theorem dX6_look_81 : decode cX6_look 81 = .ok (.ireturn, 1) := by decide +kernel
theorem dX6_look_82 : decode cX6_look 82 = .ok (.aload_n 0, 1) := by decide +kernel
theorem dX6_look_83 : decode cX6_look 83 = .ok (.getfield 33, 3) := by decide +kernel
theorem dX6_look_86 : decode cX6_look 86 = .ok (.iload_n 1, 1) := by decide +kernel
theorem dX6_look_87 : decode cX6_look 87 = .ok (.aload_n 0, 1) := by decide +kernel
theorem dX6_look_88 : decode cX6_look 88 = .ok (.getfield 19, 3) := by decide +kernel
theorem dX6_look_91 : decode cX6_look 91 = .ok (.invokevirtual 163, 3) := by decide +kernel
theorem dX6_look_94 : decode cX6_look 94 = .ok (.invokevirtual 213, 3) := by decide +kernel
theorem dX6_look_97 : decode cX6_look 97 = .ok (.ireturn, 1) := by decide +kernel
theorem dX6_look_98 : decode cX6_look 98 = .ok (.aload_n 0, 1) := by decide +kernel
theorem dX6_look_99 : decode cX6_look 99 = .ok (.getfield 33, 3) := by decide +kernel
theorem dX6_look_102 : decode cX6_look 102 = .ok (.iload_n 1, 1) := by decide +kernel
theorem dX6_look_103 : decode cX6_look 103 = .ok (.invokevirtual 216, 3) := by decide +kernel
theorem dX6_look_106 : decode cX6_look 106 = .ok (.ireturn, 1) := by decide +kernel
theorem dX6_look_107 : decode cX6_look 107 = .ok (.aload_n 0, 1) := by decide +kernel
theorem dX6_look_108 : decode cX6_look 108 = .ok (.getfield 33, 3) := by decide +kernel
theorem dX6_look_111 : decode cX6_look 111 = .ok (.iload_n 1, 1) := by decide +kernel
theorem dX6_look_112 : decode cX6_look 112 = .ok (.invokevirtual 219, 3) := by decide +kernel
theorem dX6_look_115 : decode cX6_look 115 = .ok (.ireturn, 1) := by decide +kernel
theorem dX6_look_116 : decode cX6_look 116 = .ok (.aload_n 0, 1) := by decide +kernel
theorem dX6_look_117 : decode cX6_look 117 = .ok (.getfield 33, 3) := by decide +kernel
theorem dX6_look_120 : decode cX6_look 120 = .ok (.iload_n 1, 1) := by decide +kernel
theorem dX6_look_121 : decode cX6_look 121 = .ok (.invokevirtual 222, 3) := by decide +kernel
theorem dX6_look_124 : decode cX6_look 124 = .ok (.ireturn, 1) := by decide +kernel
theorem dX6_look_125 : decode cX6_look 125 = .ok (.aload_n 0, 1) := by decide +kernel
theorem dX6_look_126 : decode cX6_look 126 = .ok (.getfield 33, 3) := by decide +kernel
theorem dX6_look_129 : decode cX6_look 129 = .ok (.iload_n 1, 1) := by decide +kernel
theorem dX6_look_130 : decode cX6_look 130 = .ok (.invokevirtual 225, 3) := by decide +kernel
theorem dX6_look_133 : decode cX6_look 133 = .ok (.ireturn, 1) := by decide +kernel
theorem dX6_look_134 : decode cX6_look 134 = .ok (.new 228, 3) := by decide +kernel
theorem dX6_look_137 : decode cX6_look 137 = .ok (.dup, 1) := by decide +kernel
theorem dX6_look_138 : decode cX6_look 138 = .ok (.ldc 230, 2) := by decide +kernel
theorem dX6_look_140 : decode cX6_look 140 = .ok (.invokespecial 232, 3) := by decide +kernel
theorem dX6_look_143 : decode cX6_look 143 = .ok (.athrow, 1) := by decide +kernel
set_option maxRecDepth 20000 in
theorem ggX6_count_X2_size : GoodIn wsX6_count wsX2_size := goodIn_r _ [9, 10, 40, 41, 42, 43, 44, 45] (by decide +kernel) (by decide +kernel)
set_option maxRecDepth 20000 in
theorem gX6_count_X2_size : GoodIn wsX6_count (wsV RX6 233 RX2 yX2_size wsX2_size) := goodIn_app (goodIn_of _ (by decide +kernel)) ggX6_count_X2_size
set_option maxRecDepth 20000 in
theorem ggX6_count_X4_size : GoodIn wsX6_count wsX4_size := goodIn_r _ [15, 16, 46, 47, 48, 49, 50, 51, 52] (by decide +kernel) (by decide +kernel)
set_option maxRecDepth 20000 in
theorem gX6_count_X4_size : GoodIn wsX6_count (wsV RX6 170 RX4 yX4_size wsX4_size) := goodIn_app (goodIn_of _ (by decide +kernel)) ggX6_count_X4_size
set_option maxRecDepth 20000 in
theorem ggX6_count_X4_peopleWithWater : GoodIn wsX6_count wsX4_peopleWithWater := goodIn_r _ [20, 16, 21, 22, 23, 24, 14, 25, 26, 46, 47, 48, 49, 50, 51, 52] (by decide +kernel) (by decide +kernel)
set_option maxRecDepth 20000 in
theorem gX6_count_X4_peopleWithWater : GoodIn wsX6_count (wsV RX6 234 RX4 yX4_peopleWithWater wsX4_peopleWithWater) := goodIn_app (goodIn_of _ (by decide +kernel)) ggX6_count_X4_peopleWithWater
set_option maxRecDepth 20000 in
theorem ggX6_count_X2_allPipes : GoodIn wsX6_count wsX2_allPipes := goodIn_r _ [30, 10, 31, 40, 41, 42, 43, 44, 45] (by decide +kernel) (by decide +kernel)
set_option maxRecDepth 20000 in
theorem gX6_count_X2_allPipes : GoodIn wsX6_count (wsV RX6 237 RX2 yX2_allPipes wsX2_allPipes) := goodIn_app (goodIn_of _ (by decide +kernel)) ggX6_count_X2_allPipes
theorem dX6_count_0 : decode cX6_count 0 = .ok (.iload_n 1, 1) := by decide +kernel
theorem dX6_count_1 : decode cX6_count 1 = .ok (.tableswitch 81 0 5 #[39, 47, 55, 60, 65, 73], 39) := by decide +kernel
theorem dX6_count_40 : decode cX6_count 40 = .ok (.aload_n 0, 1) := by decide +kernel
theorem dX6_count_41 : decode cX6_count 41 = .ok (.getfield 26, 3) := by decide +kernel
theorem dX6_count_44 : decode cX6_count 44 = .ok (.invokevirtual 233, 3) := by decide +kernel
theorem dX6_count_47 : decode cX6_count 47 = .ok (.ireturn, 1) := by decide +kernel
theorem dX6_count_48 : decode cX6_count 48 = .ok (.aload_n 0, 1) := by decide +kernel
theorem dX6_count_49 : decode cX6_count 49 = .ok (.getfield 33, 3) := by decide +kernel
theorem dX6_count_52 : decode cX6_count 52 = .ok (.invokevirtual 170, 3) := by decide +kernel
theorem dX6_count_55 : decode cX6_count 55 = .ok (.ireturn, 1) := by decide +kernel
theorem dX6_count_56 : decode cX6_count 56 = .ok (.aload_n 0, 1) := by decide +kernel
theorem dX6_count_57 : decode cX6_count 57 = .ok (.getfield 55, 3) := by decide +kernel
theorem dX6_count_60 : decode cX6_count 60 = .ok (.ireturn, 1) := by decide +kernel
theorem dX6_count_61 : decode cX6_count 61 = .ok (.aload_n 0, 1) := by decide +kernel
theorem dX6_count_62 : decode cX6_count 62 = .ok (.getfield 51, 3) := by decide +kernel
theorem dX6_count_65 : decode cX6_count 65 = .ok (.ireturn, 1) := by decide +kernel
theorem dX6_count_66 : decode cX6_count 66 = .ok (.aload_n 0, 1) := by decide +kernel
theorem dX6_count_67 : decode cX6_count 67 = .ok (.getfield 33, 3) := by decide +kernel
theorem dX6_count_70 : decode cX6_count 70 = .ok (.invokevirtual 234, 3) := by decide +kernel
theorem dX6_count_73 : decode cX6_count 73 = .ok (.ireturn, 1) := by decide +kernel
theorem dX6_count_74 : decode cX6_count 74 = .ok (.aload_n 0, 1) := by decide +kernel
theorem dX6_count_75 : decode cX6_count 75 = .ok (.getfield 26, 3) := by decide +kernel
theorem dX6_count_78 : decode cX6_count 78 = .ok (.invokevirtual 237, 3) := by decide +kernel
theorem dX6_count_81 : decode cX6_count 81 = .ok (.ireturn, 1) := by decide +kernel
theorem dX6_count_82 : decode cX6_count 82 = .ok (.iconst (-1), 1) := by decide +kernel
theorem dX6_count_83 : decode cX6_count 83 = .ok (.ireturn, 1) := by decide +kernel
set_option maxRecDepth 20000 in
theorem ggX6_isPlace_X4_has : GoodIn wsX6_isPlace wsX4_has := goodIn_r _ [6, 7, 16, 17, 18, 19, 20, 21, 22] (by decide +kernel) (by decide +kernel)
set_option maxRecDepth 20000 in
theorem gX6_isPlace_X4_has : GoodIn wsX6_isPlace (wsV RX6 119 RX4 yX4_has wsX4_has) := goodIn_app (goodIn_of _ (by decide +kernel)) ggX6_isPlace_X4_has
theorem dX6_isPlace_0 : decode cX6_isPlace 0 = .ok (.iload_n 1, 1) := by decide +kernel
theorem dX6_isPlace_1 : decode cX6_isPlace 1 = .ok (.ifCond .eq 14, 3) := by decide +kernel
theorem dX6_isPlace_4 : decode cX6_isPlace 4 = .ok (.aload_n 0, 1) := by decide +kernel
theorem dX6_isPlace_5 : decode cX6_isPlace 5 = .ok (.getfield 33, 3) := by decide +kernel
theorem dX6_isPlace_8 : decode cX6_isPlace 8 = .ok (.iload_n 1, 1) := by decide +kernel
theorem dX6_isPlace_9 : decode cX6_isPlace 9 = .ok (.invokevirtual 119, 3) := by decide +kernel
theorem dX6_isPlace_12 : decode cX6_isPlace 12 = .ok (.ifCond .eq 7, 3) := by decide +kernel
theorem dX6_isPlace_15 : decode cX6_isPlace 15 = .ok (.iconst 1, 1) := by decide +kernel
theorem dX6_isPlace_16 : decode cX6_isPlace 16 = .ok (.goto 4, 3) := by decide +kernel
theorem dX6_isPlace_19 : decode cX6_isPlace 19 = .ok (.iconst 0, 1) := by decide +kernel
theorem dX6_isPlace_20 : decode cX6_isPlace 20 = .ok (.ireturn, 1) := by decide +kernel
set_option maxRecDepth 20000 in
theorem ggX6_leastTerm_X6_commonDivisor : GoodIn wsX6_leastTerm wsX6_commonDivisor := goodIn_r _ [5] (by decide +kernel) (by decide +kernel)
set_option maxRecDepth 20000 in
theorem gX6_leastTerm_X6_commonDivisor : GoodIn wsX6_leastTerm (va_wsS RX6 240 yX6_commonDivisor wsX6_commonDivisor) := goodIn_app (goodIn_of _ (by decide +kernel)) ggX6_leastTerm_X6_commonDivisor
theorem dX6_leastTerm_0 : decode cX6_leastTerm 0 = .ok (.lload_n 0, 1) := by decide +kernel
theorem dX6_leastTerm_1 : decode cX6_leastTerm 1 = .ok (.lload_n 2, 1) := by decide +kernel
theorem dX6_leastTerm_2 : decode cX6_leastTerm 2 = .ok (.invokestatic 240, 3) := by decide +kernel
theorem dX6_leastTerm_5 : decode cX6_leastTerm 5 = .ok (.lstore 5, 2) := by decide +kernel
theorem dX6_leastTerm_7 : decode cX6_leastTerm 7 = .ok (.lload 5, 2) := by decide +kernel
theorem dX6_leastTerm_9 : decode cX6_leastTerm 9 = .ok (.lconst 0, 1) := by decide +kernel
theorem dX6_leastTerm_10 : decode cX6_leastTerm 10 = .ok (.lcmp, 1) := by decide +kernel
theorem dX6_leastTerm_11 : decode cX6_leastTerm 11 = .ok (.ifCond .ne 7, 3) := by decide +kernel
theorem dX6_leastTerm_14 : decode cX6_leastTerm 14 = .ok (.ldc2_w 146, 3) := by decide +kernel
theorem dX6_leastTerm_17 : decode cX6_leastTerm 17 = .ok (.lreturn, 1) := by decide +kernel
theorem dX6_leastTerm_18 : decode cX6_leastTerm 18 = .ok (.iload 4, 2) := by decide +kernel
theorem dX6_leastTerm_20 : decode cX6_leastTerm 20 = .ok (.ifCond .ne 10, 3) := by decide +kernel
theorem dX6_leastTerm_23 : decode cX6_leastTerm 23 = .ok (.lload_n 0, 1) := by decide +kernel
theorem dX6_leastTerm_24 : decode cX6_leastTerm 24 = .ok (.lload 5, 2) := by decide +kernel
theorem dX6_leastTerm_26 : decode cX6_leastTerm 26 = .ok (.ldiv, 1) := by decide +kernel
theorem dX6_leastTerm_27 : decode cX6_leastTerm 27 = .ok (.goto 7, 3) := by decide +kernel
theorem dX6_leastTerm_30 : decode cX6_leastTerm 30 = .ok (.lload_n 2, 1) := by decide +kernel
theorem dX6_leastTerm_31 : decode cX6_leastTerm 31 = .ok (.lload 5, 2) := by decide +kernel
theorem dX6_leastTerm_33 : decode cX6_leastTerm 33 = .ok (.ldiv, 1) := by decide +kernel
theorem dX6_leastTerm_34 : decode cX6_leastTerm 34 = .ok (.lreturn, 1) := by decide +kernel
theorem dX6_commonDivisor_0 : decode cX6_commonDivisor 0 = .ok (.lload_n 0, 1) := by decide +kernel
theorem dX6_commonDivisor_1 : decode cX6_commonDivisor 1 = .ok (.lstore 4, 2) := by decide +kernel
theorem dX6_commonDivisor_3 : decode cX6_commonDivisor 3 = .ok (.lload_n 2, 1) := by decide +kernel
theorem dX6_commonDivisor_4 : decode cX6_commonDivisor 4 = .ok (.lstore 6, 2) := by decide +kernel
theorem dX6_commonDivisor_6 : decode cX6_commonDivisor 6 = .ok (.iconst 0, 1) := by decide +kernel
theorem dX6_commonDivisor_7 : decode cX6_commonDivisor 7 = .ok (.istore 8, 2) := by decide +kernel
theorem dX6_commonDivisor_9 : decode cX6_commonDivisor 9 = .ok (.iload 8, 2) := by decide +kernel
theorem dX6_commonDivisor_11 : decode cX6_commonDivisor 11 = .ok (.sipush 200, 3) := by decide +kernel
theorem dX6_commonDivisor_14 : decode cX6_commonDivisor 14 = .ok (.if_icmp .ge 31, 3) := by decide +kernel
theorem dX6_commonDivisor_17 : decode cX6_commonDivisor 17 = .ok (.lload 6, 2) := by decide +kernel
theorem dX6_commonDivisor_19 : decode cX6_commonDivisor 19 = .ok (.lconst 0, 1) := by decide +kernel
theorem dX6_commonDivisor_20 : decode cX6_commonDivisor 20 = .ok (.lcmp, 1) := by decide +kernel
theorem dX6_commonDivisor_21 : decode cX6_commonDivisor 21 = .ok (.ifCond .eq 24, 3) := by decide +kernel
theorem dX6_commonDivisor_24 : decode cX6_commonDivisor 24 = .ok (.lload 4, 2) := by decide +kernel
theorem dX6_commonDivisor_26 : decode cX6_commonDivisor 26 = .ok (.lload 6, 2) := by decide +kernel
theorem dX6_commonDivisor_28 : decode cX6_commonDivisor 28 = .ok (.lrem, 1) := by decide +kernel
theorem dX6_commonDivisor_29 : decode cX6_commonDivisor 29 = .ok (.lstore 9, 2) := by decide +kernel
theorem dX6_commonDivisor_31 : decode cX6_commonDivisor 31 = .ok (.lload 6, 2) := by decide +kernel
theorem dX6_commonDivisor_33 : decode cX6_commonDivisor 33 = .ok (.lstore 4, 2) := by decide +kernel
theorem dX6_commonDivisor_35 : decode cX6_commonDivisor 35 = .ok (.lload 9, 2) := by decide +kernel
theorem dX6_commonDivisor_37 : decode cX6_commonDivisor 37 = .ok (.lstore 6, 2) := by decide +kernel
theorem dX6_commonDivisor_39 : decode cX6_commonDivisor 39 = .ok (.iinc 8 1, 3) := by decide +kernel
theorem dX6_commonDivisor_42 : decode cX6_commonDivisor 42 = .ok (.goto (-33), 3) := by decide +kernel
theorem dX6_commonDivisor_45 : decode cX6_commonDivisor 45 = .ok (.lload 4, 2) := by decide +kernel
theorem dX6_commonDivisor_47 : decode cX6_commonDivisor 47 = .ok (.lreturn, 1) := by decide +kernel
theorem dX7_init_0 : decode cX7_init 0 = .ok (.aload_n 0, 1) := by decide +kernel
theorem dX7_init_1 : decode cX7_init 1 = .ok (.invokespecial 1, 3) := by decide +kernel
theorem dX7_init_4 : decode cX7_init 4 = .ok (.aload_n 0, 1) := by decide +kernel
theorem dX7_init_5 : decode cX7_init 5 = .ok (.sipush 200, 3) := by decide +kernel
theorem dX7_init_8 : decode cX7_init 8 = .ok (.newarray .int, 2) := by decide +kernel
theorem dX7_init_10 : decode cX7_init 10 = .ok (.putfield 7, 3) := by decide +kernel
theorem dX7_init_13 : decode cX7_init 13 = .ok (.aload_n 0, 1) := by decide +kernel
theorem dX7_init_14 : decode cX7_init 14 = .ok (.sipush 999, 3) := by decide +kernel
theorem dX7_init_17 : decode cX7_init 17 = .ok (.putfield 13, 3) := by decide +kernel
theorem dX7_init_20 : decode cX7_init 20 = .ok (.aload_n 0, 1) := by decide +kernel
theorem dX7_init_21 : decode cX7_init 21 = .ok (.bipush 9, 2) := by decide +kernel
theorem dX7_init_23 : decode cX7_init 23 = .ok (.putfield 17, 3) := by decide +kernel
theorem dX7_init_26 : decode cX7_init 26 = .ok (.aload_n 0, 1) := by decide +kernel
theorem dX7_init_27 : decode cX7_init 27 = .ok (.iconst (-1), 1) := by decide +kernel
theorem dX7_init_28 : decode cX7_init 28 = .ok (.putfield 20, 3) := by decide +kernel
theorem dX7_init_31 : decode cX7_init 31 = .ok (.aload_n 0, 1) := by decide +kernel
theorem dX7_init_32 : decode cX7_init 32 = .ok (.bipush 12, 2) := by decide +kernel
theorem dX7_init_34 : decode cX7_init 34 = .ok (.newarray .int, 2) := by decide +kernel
theorem dX7_init_36 : decode cX7_init 36 = .ok (.putfield 23, 3) := by decide +kernel
theorem dX7_init_39 : decode cX7_init 39 = .ok (.aload_n 0, 1) := by decide +kernel
theorem dX7_init_40 : decode cX7_init 40 = .ok (.iconst 4, 1) := by decide +kernel
theorem dX7_init_41 : decode cX7_init 41 = .ok (.newarray .int, 2) := by decide +kernel
theorem dX7_init_43 : decode cX7_init 43 = .ok (.putfield 26, 3) := by decide +kernel
theorem dX7_init_46 : decode cX7_init 46 = .ok (.aload_n 0, 1) := by decide +kernel
theorem dX7_init_47 : decode cX7_init 47 = .ok (.bipush 32, 2) := by decide +kernel
theorem dX7_init_49 : decode cX7_init 49 = .ok (.newarray .int, 2) := by decide +kernel
theorem dX7_init_51 : decode cX7_init 51 = .ok (.putfield 29, 3) := by decide +kernel
theorem dX7_init_54 : decode cX7_init 54 = .ok (.aload_n 0, 1) := by decide +kernel
theorem dX7_init_55 : decode cX7_init 55 = .ok (.bipush 32, 2) := by decide +kernel
theorem dX7_init_57 : decode cX7_init 57 = .ok (.newarray .boolean, 2) := by decide +kernel
theorem dX7_init_59 : decode cX7_init 59 = .ok (.putfield 32, 3) := by decide +kernel
theorem dX7_init_62 : decode cX7_init 62 = .ok (.aload_n 0, 1) := by decide +kernel
theorem dX7_init_63 : decode cX7_init 63 = .ok (.bipush 15, 2) := by decide +kernel
theorem dX7_init_65 : decode cX7_init 65 = .ok (.newarray .int, 2) := by decide +kernel
theorem dX7_init_67 : decode cX7_init 67 = .ok (.putfield 36, 3) := by decide +kernel
theorem dX7_init_70 : decode cX7_init 70 = .ok (.aload_n 0, 1) := by decide +kernel
theorem dX7_init_71 : decode cX7_init 71 = .ok (.bipush 8, 2) := by decide +kernel
theorem dX7_init_73 : decode cX7_init 73 = .ok (.newarray .int, 2) := by decide +kernel
theorem dX7_init_75 : decode cX7_init 75 = .ok (.putfield 39, 3) := by decide +kernel
theorem dX7_init_78 : decode cX7_init 78 = .ok (.aload_n 0, 1) := by decide +kernel
theorem dX7_init_79 : decode cX7_init 79 = .ok (.bipush 8, 2) := by decide +kernel
theorem dX7_init_81 : decode cX7_init 81 = .ok (.newarray .int, 2) := by decide +kernel
theorem dX7_init_83 : decode cX7_init 83 = .ok (.putfield 42, 3) := by decide +kernel
theorem dX7_init_86 : decode cX7_init 86 = .ok (.aload_n 0, 1) := by decide +kernel
theorem dX7_init_87 : decode cX7_init 87 = .ok (.bipush 8, 2) := by decide +kernel
theorem dX7_init_89 : decode cX7_init 89 = .ok (.newarray .int, 2) := by decide +kernel
theorem dX7_init_91 : decode cX7_init 91 = .ok (.putfield 45, 3) := by decide +kernel
theorem dX7_init_94 : decode cX7_init 94 = .ok (.aload_n 0, 1) := by decide +kernel
theorem dX7_init_95 : decode cX7_init 95 = .ok (.bipush 8, 2) := by decide +kernel
theorem dX7_init_97 : decode cX7_init 97 = .ok (.newarray .int, 2) := by decide +kernel
theorem dX7_init_99 : decode cX7_init 99 = .ok (.putfield 48, 3) := by decide +kernel
theorem dX7_init_102 : decode cX7_init 102 = .ok (.aload_n 0, 1) := by decide +kernel
theorem dX7_init_103 : decode cX7_init 103 = .ok (.bipush 8, 2) := by decide +kernel
theorem dX7_init_105 : decode cX7_init 105 = .ok (.newarray .int, 2) := by decide +kernel
theorem dX7_init_107 : decode cX7_init 107 = .ok (.putfield 51, 3) := by decide +kernel
theorem dX7_init_110 : decode cX7_init 110 = .ok (.aload_n 0, 1) := by decide +kernel
theorem dX7_init_111 : decode cX7_init 111 = .ok (.bipush 8, 2) := by decide +kernel
theorem dX7_init_113 : decode cX7_init 113 = .ok (.newarray .int, 2) := by decide +kernel
theorem dX7_init_115 : decode cX7_init 115 = .ok (.putfield 54, 3) := by decide +kernel
theorem dX7_init_118 : decode cX7_init 118 = .ok (.aload_n 0, 1) := by decide +kernel
theorem dX7_init_119 : decode cX7_init 119 = .ok (.bipush 64, 2) := by decide +kernel
theorem dX7_init_121 : decode cX7_init 121 = .ok (.newarray .int, 2) := by decide +kernel
theorem dX7_init_123 : decode cX7_init 123 = .ok (.putfield 57, 3) := by decide +kernel
theorem dX7_init_126 : decode cX7_init 126 = .ok (.aload_n 0, 1) := by decide +kernel
theorem dX7_init_127 : decode cX7_init 127 = .ok (.bipush 14, 2) := by decide +kernel
theorem dX7_init_129 : decode cX7_init 129 = .ok (.newarray .int, 2) := by decide +kernel
theorem dX7_init_131 : decode cX7_init 131 = .ok (.dup, 1) := by decide +kernel
theorem dX7_init_132 : decode cX7_init 132 = .ok (.iconst 0, 1) := by decide +kernel
theorem dX7_init_133 : decode cX7_init 133 = .ok (.bipush 115, 2) := by decide +kernel
theorem dX7_init_135 : decode cX7_init 135 = .ok (.iastore, 1) := by decide +kernel
theorem dX7_init_136 : decode cX7_init 136 = .ok (.dup, 1) := by decide +kernel
theorem dX7_init_137 : decode cX7_init 137 = .ok (.iconst 1, 1) := by decide +kernel
theorem dX7_init_138 : decode cX7_init 138 = .ok (.bipush 97, 2) := by decide +kernel
theorem dX7_init_140 : decode cX7_init 140 = .ok (.iastore, 1) := by decide +kernel
theorem dX7_init_141 : decode cX7_init 141 = .ok (.dup, 1) := by decide +kernel
theorem dX7_init_142 : decode cX7_init 142 = .ok (.iconst 2, 1) := by decide +kernel
theorem dX7_init_143 : decode cX7_init 143 = .ok (.bipush 108, 2) := by decide +kernel
theorem dX7_init_145 : decode cX7_init 145 = .ok (.iastore, 1) := by decide +kernel
theorem dX7_init_146 : decode cX7_init 146 = .ok (.dup, 1) := by decide +kernel
theorem dX7_init_147 : decode cX7_init 147 = .ok (.iconst 3, 1) := by decide +kernel
theorem dX7_init_148 : decode cX7_init 148 = .ok (.bipush 116, 2) := by decide +kernel
theorem dX7_init_150 : decode cX7_init 150 = .ok (.iastore, 1) := by decide +kernel
theorem dX7_init_151 : decode cX7_init 151 = .ok (.dup, 1) := by decide +kernel
theorem dX7_init_152 : decode cX7_init 152 = .ok (.iconst 4, 1) := by decide +kernel
theorem dX7_init_153 : decode cX7_init 153 = .ok (.bipush 32, 2) := by decide +kernel
theorem dX7_init_155 : decode cX7_init 155 = .ok (.iastore, 1) := by decide +kernel
theorem dX7_init_156 : decode cX7_init 156 = .ok (.dup, 1) := by decide +kernel
theorem dX7_init_157 : decode cX7_init 157 = .ok (.iconst 5, 1) := by decide +kernel
theorem dX7_init_158 : decode cX7_init 158 = .ok (.bipush 100, 2) := by decide +kernel
theorem dX7_init_160 : decode cX7_init 160 = .ok (.iastore, 1) := by decide +kernel
theorem dX7_init_161 : decode cX7_init 161 = .ok (.dup, 1) := by decide +kernel
theorem dX7_init_162 : decode cX7_init 162 = .ok (.bipush 6, 2) := by decide +kernel
theorem dX7_init_164 : decode cX7_init 164 = .ok (.bipush 114, 2) := by decide +kernel
theorem dX7_init_166 : decode cX7_init 166 = .ok (.iastore, 1) := by decide +kernel
theorem dX7_init_167 : decode cX7_init 167 = .ok (.dup, 1) := by decide +kernel
theorem dX7_init_168 : decode cX7_init 168 = .ok (.bipush 7, 2) := by decide +kernel
theorem dX7_init_170 : decode cX7_init 170 = .ok (.bipush 121, 2) := by decide +kernel
theorem dX7_init_172 : decode cX7_init 172 = .ok (.iastore, 1) := by decide +kernel
theorem dX7_init_173 : decode cX7_init 173 = .ok (.dup, 1) := by decide +kernel
theorem dX7_init_174 : decode cX7_init 174 = .ok (.bipush 8, 2) := by decide +kernel
theorem dX7_init_176 : decode cX7_init 176 = .ok (.bipush 32, 2) := by decide +kernel
theorem dX7_init_178 : decode cX7_init 178 = .ok (.iastore, 1) := by decide +kernel
theorem dX7_init_179 : decode cX7_init 179 = .ok (.dup, 1) := by decide +kernel
theorem dX7_init_180 : decode cX7_init 180 = .ok (.bipush 9, 2) := by decide +kernel
theorem dX7_init_182 : decode cX7_init 182 = .ok (.bipush 114, 2) := by decide +kernel
theorem dX7_init_184 : decode cX7_init 184 = .ok (.iastore, 1) := by decide +kernel
theorem dX7_init_185 : decode cX7_init 185 = .ok (.dup, 1) := by decide +kernel
theorem dX7_init_186 : decode cX7_init 186 = .ok (.bipush 10, 2) := by decide +kernel
theorem dX7_init_188 : decode cX7_init 188 = .ok (.bipush 101, 2) := by decide +kernel
theorem dX7_init_190 : decode cX7_init 190 = .ok (.iastore, 1) := by decide +kernel
theorem dX7_init_191 : decode cX7_init 191 = .ok (.dup, 1) := by decide +kernel
theorem dX7_init_192 : decode cX7_init 192 = .ok (.bipush 11, 2) := by decide +kernel
theorem dX7_init_194 : decode cX7_init 194 = .ok (.bipush 115, 2) := by decide +kernel
theorem dX7_init_196 : decode cX7_init 196 = .ok (.iastore, 1) := by decide +kernel
theorem dX7_init_197 : decode cX7_init 197 = .ok (.dup, 1) := by decide +kernel
theorem dX7_init_198 : decode cX7_init 198 = .ok (.bipush 12, 2) := by decide +kernel
theorem dX7_init_200 : decode cX7_init 200 = .ok (.bipush 116, 2) := by decide +kernel
theorem dX7_init_202 : decode cX7_init 202 = .ok (.iastore, 1) := by decide +kernel
theorem dX7_init_203 : decode cX7_init 203 = .ok (.dup, 1) := by decide +kernel
theorem dX7_init_204 : decode cX7_init 204 = .ok (.bipush 13, 2) := by decide +kernel
theorem dX7_init_206 : decode cX7_init 206 = .ok (.bipush 32, 2) := by decide +kernel
theorem dX7_init_208 : decode cX7_init 208 = .ok (.iastore, 1) := by decide +kernel
theorem dX7_init_209 : decode cX7_init 209 = .ok (.putfield 60, 3) := by decide +kernel
theorem dX7_init_212 : decode cX7_init 212 = .ok (.aload_n 0, 1) := by decide +kernel
theorem dX7_init_213 : decode cX7_init 213 = .ok (.iconst 3, 1) := by decide +kernel
theorem dX7_init_214 : decode cX7_init 214 = .ok (.newarray .int, 2) := by decide +kernel
theorem dX7_init_216 : decode cX7_init 216 = .ok (.putfield 63, 3) := by decide +kernel
theorem dX7_init_219 : decode cX7_init 219 = .ok (.aload_n 0, 1) := by decide +kernel
theorem dX7_init_220 : decode cX7_init 220 = .ok (.iconst 3, 1) := by decide +kernel
theorem dX7_init_221 : decode cX7_init 221 = .ok (.newarray .long, 2) := by decide +kernel
theorem dX7_init_223 : decode cX7_init 223 = .ok (.putfield 66, 3) := by decide +kernel
theorem dX7_init_226 : decode cX7_init 226 = .ok (.aload_n 0, 1) := by decide +kernel
theorem dX7_init_227 : decode cX7_init 227 = .ok (.sipush 1024, 3) := by decide +kernel
theorem dX7_init_230 : decode cX7_init 230 = .ok (.newarray .int, 2) := by decide +kernel
theorem dX7_init_232 : decode cX7_init 232 = .ok (.putfield 70, 3) := by decide +kernel
theorem dX7_init_235 : decode cX7_init 235 = .ok (.aload_n 0, 1) := by decide +kernel
theorem dX7_init_236 : decode cX7_init 236 = .ok (.bipush 8, 2) := by decide +kernel
theorem dX7_init_238 : decode cX7_init 238 = .ok (.newarray .int, 2) := by decide +kernel
theorem dX7_init_240 : decode cX7_init 240 = .ok (.putfield 73, 3) := by decide +kernel
theorem dX7_init_243 : decode cX7_init 243 = .ok (.aload_n 0, 1) := by decide +kernel
theorem dX7_init_244 : decode cX7_init 244 = .ok (.bipush 8, 2) := by decide +kernel
theorem dX7_init_246 : decode cX7_init 246 = .ok (.newarray .int, 2) := by decide +kernel
theorem dX7_init_248 : decode cX7_init 248 = .ok (.putfield 76, 3) := by decide +kernel
theorem dX7_init_251 : decode cX7_init 251 = .ok (.aload_n 0, 1) := by decide +kernel
theorem dX7_init_252 : decode cX7_init 252 = .ok (.bipush 40, 2) := by decide +kernel
theorem dX7_init_254 : decode cX7_init 254 = .ok (.newarray .int, 2) := by decide +kernel
theorem dX7_init_256 : decode cX7_init 256 = .ok (.putfield 79, 3) := by decide +kernel
theorem dX7_init_259 : decode cX7_init 259 = .ok (.aload_n 0, 1) := by decide +kernel
theorem dX7_init_260 : decode cX7_init 260 = .ok (.bipush 7, 2) := by decide +kernel
theorem dX7_init_262 : decode cX7_init 262 = .ok (.newarray .int, 2) := by decide +kernel
theorem dX7_init_264 : decode cX7_init 264 = .ok (.putfield 82, 3) := by decide +kernel
theorem dX7_init_267 : decode cX7_init 267 = .ok (.aload_n 0, 1) := by decide +kernel
theorem dX7_init_268 : decode cX7_init 268 = .ok (.bipush 7, 2) := by decide +kernel
theorem dX7_init_270 : decode cX7_init 270 = .ok (.newarray .int, 2) := by decide +kernel
theorem dX7_init_272 : decode cX7_init 272 = .ok (.putfield 85, 3) := by decide +kernel
theorem dX7_init_275 : decode cX7_init 275 = .ok (.iconst 0, 1) := by decide +kernel
theorem dX7_init_276 : decode cX7_init 276 = .ok (.istore_n 1, 1) := by decide +kernel
theorem dX7_init_277 : decode cX7_init 277 = .ok (.iload_n 1, 1) := by decide +kernel
theorem dX7_init_278 : decode cX7_init 278 = .ok (.bipush 64, 2) := by decide +kernel
theorem dX7_init_280 : decode cX7_init 280 = .ok (.if_icmp .ge 16, 3) := by decide +kernel
theorem dX7_init_283 : decode cX7_init 283 = .ok (.aload_n 0, 1) := by decide +kernel
theorem dX7_init_284 : decode cX7_init 284 = .ok (.getfield 57, 3) := by decide +kernel
theorem dX7_init_287 : decode cX7_init 287 = .ok (.iload_n 1, 1) := by decide +kernel
theorem dX7_init_288 : decode cX7_init 288 = .ok (.iconst (-1), 1) := by decide +kernel
theorem dX7_init_289 : decode cX7_init 289 = .ok (.iastore, 1) := by decide +kernel
theorem dX7_init_290 : decode cX7_init 290 = .ok (.iinc 1 1, 3) := by decide +kernel
theorem dX7_init_293 : decode cX7_init 293 = .ok (.goto (-16), 3) := by decide +kernel
theorem dX7_init_296 : decode cX7_init 296 = .ok (.return_, 1) := by decide +kernel
theorem dX7_thrown_0 : decode cX7_thrown 0 = .ok (.aload_n 0, 1) := by decide +kernel
theorem dX7_thrown_1 : decode cX7_thrown 1 = .ok (.getfield 88, 3) := by decide +kernel
theorem dX7_thrown_4 : decode cX7_thrown 4 = .ok (.ireturn, 1) := by decide +kernel
theorem dX7_feed_0 : decode cX7_feed 0 = .ok (.aload_n 0, 1) := by decide +kernel
theorem dX7_feed_1 : decode cX7_feed 1 = .ok (.iconst 0, 1) := by decide +kernel
theorem dX7_feed_2 : decode cX7_feed 2 = .ok (.putfield 88, 3) := by decide +kernel
theorem dX7_feed_5 : decode cX7_feed 5 = .ok (.aload_n 0, 1) := by decide +kernel
theorem dX7_feed_6 : decode cX7_feed 6 = .ok (.getfield 91, 3) := by decide +kernel
theorem dX7_feed_9 : decode cX7_feed 9 = .ok (.bipush 20, 2) := by decide +kernel
theorem dX7_feed_11 : decode cX7_feed 11 = .ok (.iadd, 1) := by decide +kernel
theorem dX7_feed_12 : decode cX7_feed 12 = .ok (.sipush 200, 3) := by decide +kernel
theorem dX7_feed_15 : decode cX7_feed 15 = .ok (.if_icmp .le 5, 3) := by decide +kernel
theorem dX7_feed_18 : decode cX7_feed 18 = .ok (.iconst (-1), 1) := by decide +kernel
theorem dX7_feed_19 : decode cX7_feed 19 = .ok (.ireturn, 1) := by decide +kernel
theorem dX7_feed_20 : decode cX7_feed 20 = .ok (.iconst 0, 1) := by decide +kernel
theorem dX7_feed_21 : decode cX7_feed 21 = .ok (.istore 6, 2) := by decide +kernel
theorem dX7_feed_23 : decode cX7_feed 23 = .ok (.iload 6, 2) := by decide +kernel
theorem dX7_feed_25 : decode cX7_feed 25 = .ok (.bipush 20, 2) := by decide +kernel
theorem dX7_feed_27 : decode cX7_feed 27 = .ok (.if_icmp .ge 86, 3) := by decide +kernel
theorem dX7_feed_30 : decode cX7_feed 30 = .ok (.iload 6, 2) := by decide +kernel
theorem dX7_feed_32 : decode cX7_feed 32 = .ok (.iconst 4, 1) := by decide +kernel
theorem dX7_feed_33 : decode cX7_feed 33 = .ok (.if_icmp .ge 7, 3) := by decide +kernel
theorem dX7_feed_36 : decode cX7_feed 36 = .ok (.iload_n 1, 1) := by decide +kernel
theorem dX7_feed_37 : decode cX7_feed 37 = .ok (.goto 39, 3) := by decide +kernel
theorem dX7_feed_40 : decode cX7_feed 40 = .ok (.iload 6, 2) := by decide +kernel
theorem dX7_feed_42 : decode cX7_feed 42 = .ok (.bipush 8, 2) := by decide +kernel
theorem dX7_feed_44 : decode cX7_feed 44 = .ok (.if_icmp .ge 7, 3) := by decide +kernel
theorem dX7_feed_47 : decode cX7_feed 47 = .ok (.iload_n 2, 1) := by decide +kernel
theorem dX7_feed_48 : decode cX7_feed 48 = .ok (.goto 28, 3) := by decide +kernel
theorem dX7_feed_51 : decode cX7_feed 51 = .ok (.iload 6, 2) := by decide +kernel
theorem dX7_feed_53 : decode cX7_feed 53 = .ok (.bipush 12, 2) := by decide +kernel
theorem dX7_feed_55 : decode cX7_feed 55 = .ok (.if_icmp .ge 7, 3) := by decide +kernel
theorem dX7_feed_58 : decode cX7_feed 58 = .ok (.iload_n 3, 1) := by decide +kernel
theorem dX7_feed_59 : decode cX7_feed 59 = .ok (.goto 17, 3) := by decide +kernel
theorem dX7_feed_62 : decode cX7_feed 62 = .ok (.iload 6, 2) := by decide +kernel
theorem dX7_feed_64 : decode cX7_feed 64 = .ok (.bipush 16, 2) := by decide +kernel
theorem dX7_feed_66 : decode cX7_feed 66 = .ok (.if_icmp .ge 8, 3) := by decide +kernel
theorem dX7_feed_69 : decode cX7_feed 69 = .ok (.iload 4, 2) := by decide +kernel
theorem dX7_feed_71 : decode cX7_feed 71 = .ok (.goto 5, 3) := by decide +kernel
theorem dX7_feed_74 : decode cX7_feed 74 = .ok (.iload 5, 2) := by decide +kernel
theorem dX7_feed_76 : decode cX7_feed 76 = .ok (.istore 7, 2) := by decide +kernel
theorem dX7_feed_78 : decode cX7_feed 78 = .ok (.aload_n 0, 1) := by decide +kernel
theorem dX7_feed_79 : decode cX7_feed 79 = .ok (.getfield 7, 3) := by decide +kernel
theorem dX7_feed_82 : decode cX7_feed 82 = .ok (.aload_n 0, 1) := by decide +kernel
theorem dX7_feed_83 : decode cX7_feed 83 = .ok (.getfield 91, 3) := by decide +kernel
theorem dX7_feed_86 : decode cX7_feed 86 = .ok (.iload 6, 2) := by decide +kernel
theorem dX7_feed_88 : decode cX7_feed 88 = .ok (.iadd, 1) := by decide +kernel
theorem dX7_feed_89 : decode cX7_feed 89 = .ok (.iload 7, 2) := by decide +kernel
theorem dX7_feed_91 : decode cX7_feed 91 = .ok (.bipush 24, 2) := by decide +kernel
theorem dX7_feed_93 : decode cX7_feed 93 = .ok (.bipush 8, 2) := by decide +kernel
theorem dX7_feed_95 : decode cX7_feed 95 = .ok (.iload 6, 2) := by decide +kernel
theorem dX7_feed_97 : decode cX7_feed 97 = .ok (.iconst 4, 1) := by decide +kernel
theorem dX7_feed_98 : decode cX7_feed 98 = .ok (.irem, 1) := by decide +kernel
theorem dX7_feed_99 : decode cX7_feed 99 = .ok (.imul, 1) := by decide +kernel
theorem dX7_feed_100 : decode cX7_feed 100 = .ok (.isub, 1) := by decide +kernel
theorem dX7_feed_101 : decode cX7_feed 101 = .ok (.ishr, 1) := by decide +kernel
theorem dX7_feed_102 : decode cX7_feed 102 = .ok (.sipush 255, 3) := by decide +kernel
theorem dX7_feed_105 : decode cX7_feed 105 = .ok (.iand, 1) := by decide +kernel
theorem dX7_feed_106 : decode cX7_feed 106 = .ok (.iastore, 1) := by decide +kernel
theorem dX7_feed_107 : decode cX7_feed 107 = .ok (.iinc 6 1, 3) := by decide +kernel
theorem dX7_feed_110 : decode cX7_feed 110 = .ok (.goto (-87), 3) := by decide +kernel
theorem dX7_feed_113 : decode cX7_feed 113 = .ok (.aload_n 0, 1) := by decide +kernel
theorem dX7_feed_114 : decode cX7_feed 114 = .ok (.dup, 1) := by decide +kernel
theorem dX7_feed_115 : decode cX7_feed 115 = .ok (.getfield 91, 3) := by decide +kernel
theorem dX7_feed_118 : decode cX7_feed 118 = .ok (.bipush 20, 2) := by decide +kernel
theorem dX7_feed_120 : decode cX7_feed 120 = .ok (.iadd, 1) := by decide +kernel
theorem dX7_feed_121 : decode cX7_feed 121 = .ok (.putfield 91, 3) := by decide +kernel
theorem dX7_feed_124 : decode cX7_feed 124 = .ok (.aload_n 0, 1) := by decide +kernel
theorem dX7_feed_125 : decode cX7_feed 125 = .ok (.getfield 91, 3) := by decide +kernel
theorem dX7_feed_128 : decode cX7_feed 128 = .ok (.ireturn, 1) := by decide +kernel
theorem dX7_wrong_0 : decode cX7_wrong 0 = .ok (.aload_n 0, 1) := by decide +kernel
theorem dX7_wrong_1 : decode cX7_wrong 1 = .ok (.iload_n 1, 1) := by decide +kernel
theorem dX7_wrong_2 : decode cX7_wrong 2 = .ok (.putfield 94, 3) := by decide +kernel
theorem dX7_wrong_5 : decode cX7_wrong 5 = .ok (.aload_n 0, 1) := by decide +kernel
theorem dX7_wrong_6 : decode cX7_wrong 6 = .ok (.iload_n 2, 1) := by decide +kernel
theorem dX7_wrong_7 : decode cX7_wrong 7 = .ok (.putfield 20, 3) := by decide +kernel
theorem dX7_wrong_10 : decode cX7_wrong 10 = .ok (.iconst 0, 1) := by decide +kernel
theorem dX7_wrong_11 : decode cX7_wrong 11 = .ok (.ireturn, 1) := by decide +kernel
theorem dX7_wordAt_0 : decode cX7_wordAt 0 = .ok (.iconst 0, 1) := by decide +kernel
theorem dX7_wordAt_1 : decode cX7_wordAt 1 = .ok (.istore_n 3, 1) := by decide +kernel
theorem dX7_wordAt_2 : decode cX7_wordAt 2 = .ok (.iconst 0, 1) := by decide +kernel
theorem dX7_wordAt_3 : decode cX7_wordAt 3 = .ok (.istore 4, 2) := by decide +kernel
theorem dX7_wordAt_5 : decode cX7_wordAt 5 = .ok (.iload 4, 2) := by decide +kernel
theorem dX7_wordAt_7 : decode cX7_wordAt 7 = .ok (.aload_n 0, 1) := by decide +kernel
theorem dX7_wordAt_8 : decode cX7_wordAt 8 = .ok (.getfield 60, 3) := by decide +kernel
theorem dX7_wordAt_11 : decode cX7_wordAt 11 = .ok (.arraylength, 1) := by decide +kernel
theorem dX7_wordAt_12 : decode cX7_wordAt 12 = .ok (.if_icmp .ge 114, 3) := by decide +kernel
theorem dX7_wordAt_15 : decode cX7_wordAt 15 = .ok (.iconst 0, 1) := by decide +kernel
theorem dX7_wordAt_16 : decode cX7_wordAt 16 = .ok (.istore 5, 2) := by decide +kernel
theorem dX7_wordAt_18 : decode cX7_wordAt 18 = .ok (.aload_n 0, 1) := by decide +kernel
theorem dX7_wordAt_19 : decode cX7_wordAt 19 = .ok (.getfield 60, 3) := by decide +kernel
theorem dX7_wordAt_22 : decode cX7_wordAt 22 = .ok (.iload 4, 2) := by decide +kernel
theorem dX7_wordAt_24 : decode cX7_wordAt 24 = .ok (.iload 5, 2) := by decide +kernel
theorem dX7_wordAt_26 : decode cX7_wordAt 26 = .ok (.iadd, 1) := by decide +kernel
theorem dX7_wordAt_27 : decode cX7_wordAt 27 = .ok (.iaload, 1) := by decide +kernel
theorem dX7_wordAt_28 : decode cX7_wordAt 28 = .ok (.bipush 32, 2) := by decide +kernel
theorem dX7_wordAt_30 : decode cX7_wordAt 30 = .ok (.if_icmp .eq 9, 3) := by decide +kernel
theorem dX7_wordAt_33 : decode cX7_wordAt 33 = .ok (.iinc 5 1, 3) := by decide +kernel
theorem dX7_wordAt_36 : decode cX7_wordAt 36 = .ok (.goto (-18), 3) := by decide +kernel
theorem dX7_wordAt_39 : decode cX7_wordAt 39 = .ok (.iload 5, 2) := by decide +kernel
theorem dX7_wordAt_41 : decode cX7_wordAt 41 = .ok (.iload_n 2, 1) := by decide +kernel
theorem dX7_wordAt_42 : decode cX7_wordAt 42 = .ok (.iload_n 1, 1) := by decide +kernel
theorem dX7_wordAt_43 : decode cX7_wordAt 43 = .ok (.isub, 1) := by decide +kernel
theorem dX7_wordAt_44 : decode cX7_wordAt 44 = .ok (.if_icmp .ne 7, 3) := by decide +kernel
theorem dX7_wordAt_47 : decode cX7_wordAt 47 = .ok (.iconst 1, 1) := by decide +kernel
theorem dX7_wordAt_48 : decode cX7_wordAt 48 = .ok (.goto 4, 3) := by decide +kernel
theorem dX7_wordAt_51 : decode cX7_wordAt 51 = .ok (.iconst 0, 1) := by decide +kernel
theorem dX7_wordAt_52 : decode cX7_wordAt 52 = .ok (.istore 6, 2) := by decide +kernel
theorem dX7_wordAt_54 : decode cX7_wordAt 54 = .ok (.iconst 0, 1) := by decide +kernel
theorem dX7_wordAt_55 : decode cX7_wordAt 55 = .ok (.istore 7, 2) := by decide +kernel
theorem dX7_wordAt_57 : decode cX7_wordAt 57 = .ok (.iload 7, 2) := by decide +kernel
theorem dX7_wordAt_59 : decode cX7_wordAt 59 = .ok (.iload 5, 2) := by decide +kernel
theorem dX7_wordAt_61 : decode cX7_wordAt 61 = .ok (.if_icmp .ge 43, 3) := by decide +kernel
theorem dX7_wordAt_64 : decode cX7_wordAt 64 = .ok (.iload 6, 2) := by decide +kernel
theorem dX7_wordAt_66 : decode cX7_wordAt 66 = .ok (.ifCond .eq 38, 3) := by decide +kernel
theorem dX7_wordAt_69 : decode cX7_wordAt 69 = .ok (.aload_n 0, 1) := by decide +kernel
theorem dX7_wordAt_70 : decode cX7_wordAt 70 = .ok (.getfield 60, 3) := by decide +kernel
theorem dX7_wordAt_73 : decode cX7_wordAt 73 = .ok (.iload 4, 2) := by decide +kernel
theorem dX7_wordAt_75 : decode cX7_wordAt 75 = .ok (.iload 7, 2) := by decide +kernel
theorem dX7_wordAt_77 : decode cX7_wordAt 77 = .ok (.iadd, 1) := by decide +kernel
theorem dX7_wordAt_78 : decode cX7_wordAt 78 = .ok (.iaload, 1) := by decide +kernel
theorem dX7_wordAt_79 : decode cX7_wordAt 79 = .ok (.aload_n 0, 1) := by decide +kernel
theorem dX7_wordAt_80 : decode cX7_wordAt 80 = .ok (.getfield 7, 3) := by decide +kernel
theorem dX7_wordAt_83 : decode cX7_wordAt 83 = .ok (.iload_n 1, 1) := by decide +kernel
theorem dX7_wordAt_84 : decode cX7_wordAt 84 = .ok (.iload 7, 2) := by decide +kernel
theorem dX7_wordAt_86 : decode cX7_wordAt 86 = .ok (.iadd, 1) := by decide +kernel
theorem dX7_wordAt_87 : decode cX7_wordAt 87 = .ok (.iaload, 1) := by decide +kernel
theorem dX7_wordAt_88 : decode cX7_wordAt 88 = .ok (.if_icmp .ne 7, 3) := by decide +kernel
theorem dX7_wordAt_91 : decode cX7_wordAt 91 = .ok (.iconst 1, 1) := by decide +kernel
theorem dX7_wordAt_92 : decode cX7_wordAt 92 = .ok (.goto 4, 3) := by decide +kernel
theorem dX7_wordAt_95 : decode cX7_wordAt 95 = .ok (.iconst 0, 1) := by decide +kernel
theorem dX7_wordAt_96 : decode cX7_wordAt 96 = .ok (.istore 6, 2) := by decide +kernel
theorem dX7_wordAt_98 : decode cX7_wordAt 98 = .ok (.iinc 7 1, 3) := by decide +kernel
theorem dX7_wordAt_101 : decode cX7_wordAt 101 = .ok (.goto (-44), 3) := by decide +kernel
theorem dX7_wordAt_104 : decode cX7_wordAt 104 = .ok (.iload 6, 2) := by decide +kernel
theorem dX7_wordAt_106 : decode cX7_wordAt 106 = .ok (.ifCond .eq 5, 3) := by decide +kernel
theorem dX7_wordAt_109 : decode cX7_wordAt 109 = .ok (.iload_n 3, 1) := by decide +kernel
theorem dX7_wordAt_110 : decode cX7_wordAt 110 = .ok (.ireturn, 1) := by decide +kernel
theorem dX7_wordAt_111 : decode cX7_wordAt 111 = .ok (.iload 4, 2) := by decide +kernel
theorem dX7_wordAt_113 : decode cX7_wordAt 113 = .ok (.iload 5, 2) := by decide +kernel
theorem dX7_wordAt_115 : decode cX7_wordAt 115 = .ok (.iconst 1, 1) := by decide +kernel
theorem dX7_wordAt_116 : decode cX7_wordAt 116 = .ok (.iadd, 1) := by decide +kernel
theorem dX7_wordAt_117 : decode cX7_wordAt 117 = .ok (.iadd, 1) := by decide +kernel
theorem dX7_wordAt_118 : decode cX7_wordAt 118 = .ok (.istore 4, 2) := by decide +kernel
theorem dX7_wordAt_120 : decode cX7_wordAt 120 = .ok (.iinc 3 1, 3) := by decide +kernel
theorem dX7_wordAt_123 : decode cX7_wordAt 123 = .ok (.goto (-118), 3) := by decide +kernel
theorem dX7_wordAt_126 : decode cX7_wordAt 126 = .ok (.iconst (-1), 1) := by decide +kernel
theorem dX7_wordAt_127 : decode cX7_wordAt 127 = .ok (.ireturn, 1) := by decide +kernel
theorem dX7_isSmall_0 : decode cX7_isSmall 0 = .ok (.iload_n 1, 1) := by decide +kernel
theorem dX7_isSmall_1 : decode cX7_isSmall 1 = .ok (.aload_n 0, 1) := by decide +kernel
theorem dX7_isSmall_2 : decode cX7_isSmall 2 = .ok (.getfield 97, 3) := by decide +kernel
theorem dX7_isSmall_5 : decode cX7_isSmall 5 = .ok (.if_icmp .ge 29, 3) := by decide +kernel
theorem dX7_isSmall_8 : decode cX7_isSmall 8 = .ok (.aload_n 0, 1) := by decide +kernel
theorem dX7_isSmall_9 : decode cX7_isSmall 9 = .ok (.getfield 7, 3) := by decide +kernel
theorem dX7_isSmall_12 : decode cX7_isSmall 12 = .ok (.iload_n 1, 1) := by decide +kernel
theorem dX7_isSmall_13 : decode cX7_isSmall 13 = .ok (.iaload, 1) := by decide +kernel
theorem dX7_isSmall_14 : decode cX7_isSmall 14 = .ok (.bipush 97, 2) := by decide +kernel
theorem dX7_isSmall_16 : decode cX7_isSmall 16 = .ok (.if_icmp .lt 18, 3) := by decide +kernel
theorem dX7_isSmall_19 : decode cX7_isSmall 19 = .ok (.aload_n 0, 1) := by decide +kernel
theorem dX7_isSmall_20 : decode cX7_isSmall 20 = .ok (.getfield 7, 3) := by decide +kernel
theorem dX7_isSmall_23 : decode cX7_isSmall 23 = .ok (.iload_n 1, 1) := by decide +kernel
theorem dX7_isSmall_24 : decode cX7_isSmall 24 = .ok (.iaload, 1) := by decide +kernel
theorem dX7_isSmall_25 : decode cX7_isSmall 25 = .ok (.bipush 122, 2) := by decide +kernel
theorem dX7_isSmall_27 : decode cX7_isSmall 27 = .ok (.if_icmp .gt 7, 3) := by decide +kernel
theorem dX7_isSmall_30 : decode cX7_isSmall 30 = .ok (.iconst 1, 1) := by decide +kernel
theorem dX7_isSmall_31 : decode cX7_isSmall 31 = .ok (.goto 4, 3) := by decide +kernel
theorem dX7_isSmall_34 : decode cX7_isSmall 34 = .ok (.iconst 0, 1) := by decide +kernel
theorem dX7_isSmall_35 : decode cX7_isSmall 35 = .ok (.ireturn, 1) := by decide +kernel
theorem dX7_isDigit_0 : decode cX7_isDigit 0 = .ok (.iload_n 1, 1) := by decide +kernel
theorem dX7_isDigit_1 : decode cX7_isDigit 1 = .ok (.aload_n 0, 1) := by decide +kernel
theorem dX7_isDigit_2 : decode cX7_isDigit 2 = .ok (.getfield 97, 3) := by decide +kernel
theorem dX7_isDigit_5 : decode cX7_isDigit 5 = .ok (.if_icmp .ge 29, 3) := by decide +kernel
theorem dX7_isDigit_8 : decode cX7_isDigit 8 = .ok (.aload_n 0, 1) := by decide +kernel
theorem dX7_isDigit_9 : decode cX7_isDigit 9 = .ok (.getfield 7, 3) := by decide +kernel
theorem dX7_isDigit_12 : decode cX7_isDigit 12 = .ok (.iload_n 1, 1) := by decide +kernel
theorem dX7_isDigit_13 : decode cX7_isDigit 13 = .ok (.iaload, 1) := by decide +kernel
theorem dX7_isDigit_14 : decode cX7_isDigit 14 = .ok (.bipush 48, 2) := by decide +kernel
theorem dX7_isDigit_16 : decode cX7_isDigit 16 = .ok (.if_icmp .lt 18, 3) := by decide +kernel
theorem dX7_isDigit_19 : decode cX7_isDigit 19 = .ok (.aload_n 0, 1) := by decide +kernel
theorem dX7_isDigit_20 : decode cX7_isDigit 20 = .ok (.getfield 7, 3) := by decide +kernel
theorem dX7_isDigit_23 : decode cX7_isDigit 23 = .ok (.iload_n 1, 1) := by decide +kernel
theorem dX7_isDigit_24 : decode cX7_isDigit 24 = .ok (.iaload, 1) := by decide +kernel
theorem dX7_isDigit_25 : decode cX7_isDigit 25 = .ok (.bipush 57, 2) := by decide +kernel
theorem dX7_isDigit_27 : decode cX7_isDigit 27 = .ok (.if_icmp .gt 7, 3) := by decide +kernel
theorem dX7_isDigit_30 : decode cX7_isDigit 30 = .ok (.iconst 1, 1) := by decide +kernel
theorem dX7_isDigit_31 : decode cX7_isDigit 31 = .ok (.goto 4, 3) := by decide +kernel
theorem dX7_isDigit_34 : decode cX7_isDigit 34 = .ok (.iconst 0, 1) := by decide +kernel
theorem dX7_isDigit_35 : decode cX7_isDigit 35 = .ok (.ireturn, 1) := by decide +kernel
set_option maxRecDepth 20000 in
theorem ggX7_take_X7_isSmall : GoodIn wsX7_take wsX7_isSmall := goodIn_r _ [11, 2, 3, 21, 22, 23, 24, 25, 26, 27, 28, 29, 30, 31, 32, 33, 34, 35, 36, 37, 38, 39, 40, 41, 42, 43, 44, 45, 46, 47, 48, 49, 50, 51, 52, 53, 54, 55, 56, 57, 58, 59, 60, 61, 62, 63] (by decide +kernel) (by decide +kernel)
set_option maxRecDepth 20000 in
theorem gX7_take_X7_isSmall : GoodIn wsX7_take (wsV RX7 109 RX7 yX7_isSmall wsX7_isSmall) := goodIn_app (goodIn_of _ (by decide +kernel)) ggX7_take_X7_isSmall
set_option maxRecDepth 20000 in
theorem ggX7_take_X7_wordAt : GoodIn wsX7_take wsX7_wordAt := goodIn_r _ [15, 16, 3, 21, 22, 23, 24, 25, 26, 27, 28, 29, 30, 31, 32, 33, 34, 35, 36, 37, 38, 39, 40, 41, 42, 43, 44, 45, 46, 47, 48, 49, 50, 51, 52, 53, 54, 55, 56, 57, 58, 59, 60, 61, 62, 63] (by decide +kernel) (by decide +kernel)
set_option maxRecDepth 20000 in
theorem gX7_take_X7_wordAt : GoodIn wsX7_take (wsV RX7 113 RX7 yX7_wordAt wsX7_wordAt) := goodIn_app (goodIn_of _ (by decide +kernel)) ggX7_take_X7_wordAt
set_option maxRecDepth 20000 in
theorem ggX7_take_X7_isDigit : GoodIn wsX7_take wsX7_isDigit := goodIn_r _ [20, 2, 3, 21, 22, 23, 24, 25, 26, 27, 28, 29, 30, 31, 32, 33, 34, 35, 36, 37, 38, 39, 40, 41, 42, 43, 44, 45, 46, 47, 48, 49, 50, 51, 52, 53, 54, 55, 56, 57, 58, 59, 60, 61, 62, 63] (by decide +kernel) (by decide +kernel)
set_option maxRecDepth 20000 in
theorem gX7_take_X7_isDigit : GoodIn wsX7_take (wsV RX7 120 RX7 yX7_isDigit wsX7_isDigit) := goodIn_app (goodIn_of _ (by decide +kernel)) ggX7_take_X7_isDigit
theorem dX7_take_0 : decode cX7_take 0 = .ok (.aload_n 0, 1) := by decide +kernel
theorem dX7_take_1 : decode cX7_take 1 = .ok (.getfield 100, 3) := by decide +kernel
theorem dX7_take_4 : decode cX7_take 4 = .ok (.aload_n 0, 1) := by decide +kernel
theorem dX7_take_5 : decode cX7_take 5 = .ok (.getfield 97, 3) := by decide +kernel
theorem dX7_take_8 : decode cX7_take 8 = .ok (.if_icmp .ge 44, 3) := by decide +kernel
theorem dX7_take_11 : decode cX7_take 11 = .ok (.aload_n 0, 1) := by decide +kernel
theorem dX7_take_12 : decode cX7_take 12 = .ok (.getfield 7, 3) := by decide +kernel
theorem dX7_take_15 : decode cX7_take 15 = .ok (.aload_n 0, 1) := by decide +kernel
theorem dX7_take_16 : decode cX7_take 16 = .ok (.getfield 100, 3) := by decide +kernel
theorem dX7_take_19 : decode cX7_take 19 = .ok (.iaload, 1) := by decide +kernel
theorem dX7_take_20 : decode cX7_take 20 = .ok (.bipush 10, 2) := by decide +kernel
theorem dX7_take_22 : decode cX7_take 22 = .ok (.if_icmp .eq 17, 3) := by decide +kernel
theorem dX7_take_25 : decode cX7_take 25 = .ok (.aload_n 0, 1) := by decide +kernel
theorem dX7_take_26 : decode cX7_take 26 = .ok (.getfield 7, 3) := by decide +kernel
theorem dX7_take_29 : decode cX7_take 29 = .ok (.aload_n 0, 1) := by decide +kernel
theorem dX7_take_30 : decode cX7_take 30 = .ok (.getfield 100, 3) := by decide +kernel
theorem dX7_take_33 : decode cX7_take 33 = .ok (.iaload, 1) := by decide +kernel
theorem dX7_take_34 : decode cX7_take 34 = .ok (.bipush 32, 2) := by decide +kernel
theorem dX7_take_36 : decode cX7_take 36 = .ok (.if_icmp .ne 16, 3) := by decide +kernel
theorem dX7_take_39 : decode cX7_take 39 = .ok (.aload_n 0, 1) := by decide +kernel
theorem dX7_take_40 : decode cX7_take 40 = .ok (.dup, 1) := by decide +kernel
theorem dX7_take_41 : decode cX7_take 41 = .ok (.getfield 100, 3) := by decide +kernel
theorem dX7_take_44 : decode cX7_take 44 = .ok (.iconst 1, 1) := by decide +kernel
theorem dX7_take_45 : decode cX7_take 45 = .ok (.iadd, 1) := by decide +kernel
theorem dX7_take_46 : decode cX7_take 46 = .ok (.putfield 100, 3) := by decide +kernel
theorem dX7_take_49 : decode cX7_take 49 = .ok (.goto (-49), 3) := by decide +kernel
