theorem dX7_take_52 : decode cX7_take 52 = .ok (.aload_n 0, 1) := by decide +kernel
theorem dX7_take_53 : decode cX7_take 53 = .ok (.aload_n 0, 1) := by decide +kernel
theorem dX7_take_54 : decode cX7_take 54 = .ok (.getfield 100, 3) := by decide +kernel
theorem dX7_take_57 : decode cX7_take 57 = .ok (.putfield 103, 3) := by decide +kernel
theorem dX7_take_60 : decode cX7_take 60 = .ok (.aload_n 0, 1) := by decide +kernel
theorem dX7_take_61 : decode cX7_take 61 = .ok (.getfield 100, 3) := by decide +kernel
theorem dX7_take_64 : decode cX7_take 64 = .ok (.aload_n 0, 1) := by decide +kernel
theorem dX7_take_65 : decode cX7_take 65 = .ok (.getfield 97, 3) := by decide +kernel
theorem dX7_take_68 : decode cX7_take 68 = .ok (.if_icmp .ne 11, 3) := by decide +kernel
theorem dX7_take_71 : decode cX7_take 71 = .ok (.aload_n 0, 1) := by decide +kernel
theorem dX7_take_72 : decode cX7_take 72 = .ok (.iconst 0, 1) := by decide +kernel
theorem dX7_take_73 : decode cX7_take 73 = .ok (.putfield 106, 3) := by decide +kernel
theorem dX7_take_76 : decode cX7_take 76 = .ok (.goto 192, 3) := by decide +kernel
theorem dX7_take_79 : decode cX7_take 79 = .ok (.aload_n 0, 1) := by decide +kernel
theorem dX7_take_80 : decode cX7_take 80 = .ok (.aload_n 0, 1) := by decide +kernel
theorem dX7_take_81 : decode cX7_take 81 = .ok (.getfield 100, 3) := by decide +kernel
theorem dX7_take_84 : decode cX7_take 84 = .ok (.invokevirtual 109, 3) := by decide +kernel
theorem dX7_take_87 : decode cX7_take 87 = .ok (.ifCond .eq 62, 3) := by decide +kernel
theorem dX7_take_90 : decode cX7_take 90 = .ok (.aload_n 0, 1) := by decide +kernel
theorem dX7_take_91 : decode cX7_take 91 = .ok (.aload_n 0, 1) := by decide +kernel
theorem dX7_take_92 : decode cX7_take 92 = .ok (.getfield 100, 3) := by decide +kernel
theorem dX7_take_95 : decode cX7_take 95 = .ok (.invokevirtual 109, 3) := by decide +kernel
theorem dX7_take_98 : decode cX7_take 98 = .ok (.ifCond .eq 16, 3) := by decide +kernel
theorem dX7_take_101 : decode cX7_take 101 = .ok (.aload_n 0, 1) := by decide +kernel
theorem dX7_take_102 : decode cX7_take 102 = .ok (.dup, 1) := by decide +kernel
theorem dX7_take_103 : decode cX7_take 103 = .ok (.getfield 100, 3) := by decide +kernel
theorem dX7_take_106 : decode cX7_take 106 = .ok (.iconst 1, 1) := by decide +kernel
theorem dX7_take_107 : decode cX7_take 107 = .ok (.iadd, 1) := by decide +kernel
theorem dX7_take_108 : decode cX7_take 108 = .ok (.putfield 100, 3) := by decide +kernel
theorem dX7_take_111 : decode cX7_take 111 = .ok (.goto (-21), 3) := by decide +kernel
theorem dX7_take_114 : decode cX7_take 114 = .ok (.aload_n 0, 1) := by decide +kernel
theorem dX7_take_115 : decode cX7_take 115 = .ok (.aload_n 0, 1) := by decide +kernel
theorem dX7_take_116 : decode cX7_take 116 = .ok (.aload_n 0, 1) := by decide +kernel
theorem dX7_take_117 : decode cX7_take 117 = .ok (.getfield 103, 3) := by decide +kernel
theorem dX7_take_120 : decode cX7_take 120 = .ok (.aload_n 0, 1) := by decide +kernel
theorem dX7_take_121 : decode cX7_take 121 = .ok (.getfield 100, 3) := by decide +kernel
theorem dX7_take_124 : decode cX7_take 124 = .ok (.invokevirtual 113, 3) := by decide +kernel
theorem dX7_take_127 : decode cX7_take 127 = .ok (.putfield 117, 3) := by decide +kernel
theorem dX7_take_130 : decode cX7_take 130 = .ok (.aload_n 0, 1) := by decide +kernel
theorem dX7_take_131 : decode cX7_take 131 = .ok (.aload_n 0, 1) := by decide +kernel
theorem dX7_take_132 : decode cX7_take 132 = .ok (.getfield 117, 3) := by decide +kernel
theorem dX7_take_135 : decode cX7_take 135 = .ok (.ifCond .ge 7, 3) := by decide +kernel
theorem dX7_take_138 : decode cX7_take 138 = .ok (.iconst 4, 1) := by decide +kernel
theorem dX7_take_139 : decode cX7_take 139 = .ok (.goto 4, 3) := by decide +kernel
theorem dX7_take_142 : decode cX7_take 142 = .ok (.iconst 1, 1) := by decide +kernel
theorem dX7_take_143 : decode cX7_take 143 = .ok (.putfield 106, 3) := by decide +kernel
theorem dX7_take_146 : decode cX7_take 146 = .ok (.goto 122, 3) := by decide +kernel
theorem dX7_take_149 : decode cX7_take 149 = .ok (.aload_n 0, 1) := by decide +kernel
theorem dX7_take_150 : decode cX7_take 150 = .ok (.aload_n 0, 1) := by decide +kernel
theorem dX7_take_151 : decode cX7_take 151 = .ok (.getfield 100, 3) := by decide +kernel
theorem dX7_take_154 : decode cX7_take 154 = .ok (.invokevirtual 120, 3) := by decide +kernel
theorem dX7_take_157 : decode cX7_take 157 = .ok (.ifCond .eq 78, 3) := by decide +kernel
theorem dX7_take_160 : decode cX7_take 160 = .ok (.aload_n 0, 1) := by decide +kernel
theorem dX7_take_161 : decode cX7_take 161 = .ok (.iconst 2, 1) := by decide +kernel
theorem dX7_take_162 : decode cX7_take 162 = .ok (.putfield 106, 3) := by decide +kernel
theorem dX7_take_165 : decode cX7_take 165 = .ok (.aload_n 0, 1) := by decide +kernel
theorem dX7_take_166 : decode cX7_take 166 = .ok (.iconst 0, 1) := by decide +kernel
theorem dX7_take_167 : decode cX7_take 167 = .ok (.putfield 117, 3) := by decide +kernel
theorem dX7_take_170 : decode cX7_take 170 = .ok (.aload_n 0, 1) := by decide +kernel
theorem dX7_take_171 : decode cX7_take 171 = .ok (.aload_n 0, 1) := by decide +kernel
theorem dX7_take_172 : decode cX7_take 172 = .ok (.getfield 100, 3) := by decide +kernel
theorem dX7_take_175 : decode cX7_take 175 = .ok (.invokevirtual 120, 3) := by decide +kernel
theorem dX7_take_178 : decode cX7_take 178 = .ok (.ifCond .eq 90, 3) := by decide +kernel
theorem dX7_take_181 : decode cX7_take 181 = .ok (.aload_n 0, 1) := by decide +kernel
theorem dX7_take_182 : decode cX7_take 182 = .ok (.aload_n 0, 1) := by decide +kernel
theorem dX7_take_183 : decode cX7_take 183 = .ok (.getfield 117, 3) := by decide +kernel
theorem dX7_take_186 : decode cX7_take 186 = .ok (.sipush 9999, 3) := by decide +kernel
theorem dX7_take_189 : decode cX7_take 189 = .ok (.if_icmp .le 10, 3) := by decide +kernel
theorem dX7_take_192 : decode cX7_take 192 = .ok (.aload_n 0, 1) := by decide +kernel
theorem dX7_take_193 : decode cX7_take 193 = .ok (.getfield 117, 3) := by decide +kernel
theorem dX7_take_196 : decode cX7_take 196 = .ok (.goto 23, 3) := by decide +kernel
theorem dX7_take_199 : decode cX7_take 199 = .ok (.bipush 10, 2) := by decide +kernel
theorem dX7_take_201 : decode cX7_take 201 = .ok (.aload_n 0, 1) := by decide +kernel
theorem dX7_take_202 : decode cX7_take 202 = .ok (.getfield 117, 3) := by decide +kernel
theorem dX7_take_205 : decode cX7_take 205 = .ok (.imul, 1) := by decide +kernel
theorem dX7_take_206 : decode cX7_take 206 = .ok (.aload_n 0, 1) := by decide +kernel
theorem dX7_take_207 : decode cX7_take 207 = .ok (.getfield 7, 3) := by decide +kernel
theorem dX7_take_210 : decode cX7_take 210 = .ok (.aload_n 0, 1) := by decide +kernel
theorem dX7_take_211 : decode cX7_take 211 = .ok (.getfield 100, 3) := by decide +kernel
theorem dX7_take_214 : decode cX7_take 214 = .ok (.iaload, 1) := by decide +kernel
theorem dX7_take_215 : decode cX7_take 215 = .ok (.iadd, 1) := by decide +kernel
theorem dX7_take_216 : decode cX7_take 216 = .ok (.bipush 48, 2) := by decide +kernel
theorem dX7_take_218 : decode cX7_take 218 = .ok (.isub, 1) := by decide +kernel
theorem dX7_take_219 : decode cX7_take 219 = .ok (.putfield 117, 3) := by decide +kernel
theorem dX7_take_222 : decode cX7_take 222 = .ok (.aload_n 0, 1) := by decide +kernel
theorem dX7_take_223 : decode cX7_take 223 = .ok (.dup, 1) := by decide +kernel
theorem dX7_take_224 : decode cX7_take 224 = .ok (.getfield 100, 3) := by decide +kernel
theorem dX7_take_227 : decode cX7_take 227 = .ok (.iconst 1, 1) := by decide +kernel
theorem dX7_take_228 : decode cX7_take 228 = .ok (.iadd, 1) := by decide +kernel
theorem dX7_take_229 : decode cX7_take 229 = .ok (.putfield 100, 3) := by decide +kernel
theorem dX7_take_232 : decode cX7_take 232 = .ok (.goto (-62), 3) := by decide +kernel
theorem dX7_take_235 : decode cX7_take 235 = .ok (.aload_n 0, 1) := by decide +kernel
theorem dX7_take_236 : decode cX7_take 236 = .ok (.aload_n 0, 1) := by decide +kernel
theorem dX7_take_237 : decode cX7_take 237 = .ok (.getfield 7, 3) := by decide +kernel
theorem dX7_take_240 : decode cX7_take 240 = .ok (.aload_n 0, 1) := by decide +kernel
theorem dX7_take_241 : decode cX7_take 241 = .ok (.getfield 100, 3) := by decide +kernel
theorem dX7_take_244 : decode cX7_take 244 = .ok (.iaload, 1) := by decide +kernel
theorem dX7_take_245 : decode cX7_take 245 = .ok (.bipush 59, 2) := by decide +kernel
theorem dX7_take_247 : decode cX7_take 247 = .ok (.if_icmp .ne 7, 3) := by decide +kernel
theorem dX7_take_250 : decode cX7_take 250 = .ok (.iconst 3, 1) := by decide +kernel
theorem dX7_take_251 : decode cX7_take 251 = .ok (.goto 4, 3) := by decide +kernel
theorem dX7_take_254 : decode cX7_take 254 = .ok (.iconst 4, 1) := by decide +kernel
theorem dX7_take_255 : decode cX7_take 255 = .ok (.putfield 106, 3) := by decide +kernel
theorem dX7_take_258 : decode cX7_take 258 = .ok (.aload_n 0, 1) := by decide +kernel
theorem dX7_take_259 : decode cX7_take 259 = .ok (.dup, 1) := by decide +kernel
theorem dX7_take_260 : decode cX7_take 260 = .ok (.getfield 100, 3) := by decide +kernel
theorem dX7_take_263 : decode cX7_take 263 = .ok (.iconst 1, 1) := by decide +kernel
theorem dX7_take_264 : decode cX7_take 264 = .ok (.iadd, 1) := by decide +kernel
theorem dX7_take_265 : decode cX7_take 265 = .ok (.putfield 100, 3) := by decide +kernel
theorem dX7_take_268 : decode cX7_take 268 = .ok (.return_, 1) := by decide +kernel
set_option maxRecDepth 20000 in
theorem ggX7_line_X7_wrong : GoodIn wsX7_line wsX7_wrong := goodIn_r _ [9, 10, 11, 32, 33, 34, 35, 36, 37, 38, 39, 40, 41, 42, 43, 44, 45, 46, 47, 48, 49, 50, 51, 52, 53, 54, 55, 56, 57, 58, 59, 60, 61, 62, 63, 64, 65, 66, 67, 68, 69, 70, 71, 72, 73, 74] (by decide +kernel) (by decide +kernel)
set_option maxRecDepth 20000 in
theorem gX7_line_X7_wrong : GoodIn wsX7_line (wsV RX7 123 RX7 yX7_wrong wsX7_wrong) := goodIn_app (goodIn_of _ (by decide +kernel)) ggX7_line_X7_wrong
set_option maxRecDepth 20000 in
theorem ggX7_line_X7_take : GoodIn wsX7_line wsX7_take := goodIn_r _ [15, 16, 17, 18, 2, 1, 3, 19, 20, 21, 8, 22, 23, 24, 25, 26, 27, 28, 29, 30, 31, 32, 33, 34, 35, 36, 37, 38, 39, 40, 41, 42, 43, 44, 45, 46, 47, 48, 49, 50, 51, 52, 53, 54, 55, 56, 57, 58, 59, 60, 61, 62, 63, 64, 65, 66, 67, 68, 69, 70, 71, 72, 73, 74] (by decide +kernel) (by decide +kernel)
set_option maxRecDepth 20000 in
theorem gX7_line_X7_take : GoodIn wsX7_line (wsV RX7 127 RX7 yX7_take wsX7_take) := goodIn_app (goodIn_of _ (by decide +kernel)) ggX7_line_X7_take
theorem dX7_line_0 : decode cX7_line 0 = .ok (.aload_n 0, 1) := by decide +kernel
theorem dX7_line_1 : decode cX7_line 1 = .ok (.getfield 106, 3) := by decide +kernel
theorem dX7_line_4 : decode cX7_line 4 = .ok (.iconst 1, 1) := by decide +kernel
theorem dX7_line_5 : decode cX7_line 5 = .ok (.if_icmp .eq 13, 3) := by decide +kernel
theorem dX7_line_8 : decode cX7_line 8 = .ok (.aload_n 0, 1) := by decide +kernel
theorem dX7_line_9 : decode cX7_line 9 = .ok (.iconst 1, 1) := by decide +kernel
theorem dX7_line_10 : decode cX7_line 10 = .ok (.aload_n 0, 1) := by decide +kernel
theorem dX7_line_11 : decode cX7_line 11 = .ok (.getfield 103, 3) := by decide +kernel
theorem dX7_line_14 : decode cX7_line 14 = .ok (.invokevirtual 123, 3) := by decide +kernel
theorem dX7_line_17 : decode cX7_line 17 = .ok (.ireturn, 1) := by decide +kernel
theorem dX7_line_18 : decode cX7_line 18 = .ok (.aload_n 0, 1) := by decide +kernel
theorem dX7_line_19 : decode cX7_line 19 = .ok (.getfield 117, 3) := by decide +kernel
theorem dX7_line_22 : decode cX7_line 22 = .ok (.istore_n 1, 1) := by decide +kernel
theorem dX7_line_23 : decode cX7_line 23 = .ok (.aload_n 0, 1) := by decide +kernel
theorem dX7_line_24 : decode cX7_line 24 = .ok (.getfield 63, 3) := by decide +kernel
theorem dX7_line_27 : decode cX7_line 27 = .ok (.iload_n 1, 1) := by decide +kernel
theorem dX7_line_28 : decode cX7_line 28 = .ok (.iaload, 1) := by decide +kernel
theorem dX7_line_29 : decode cX7_line 29 = .ok (.ifCond .lt 13, 3) := by decide +kernel
theorem dX7_line_32 : decode cX7_line 32 = .ok (.aload_n 0, 1) := by decide +kernel
theorem dX7_line_33 : decode cX7_line 33 = .ok (.iconst 3, 1) := by decide +kernel
theorem dX7_line_34 : decode cX7_line 34 = .ok (.aload_n 0, 1) := by decide +kernel
theorem dX7_line_35 : decode cX7_line 35 = .ok (.getfield 103, 3) := by decide +kernel
theorem dX7_line_38 : decode cX7_line 38 = .ok (.invokevirtual 123, 3) := by decide +kernel
theorem dX7_line_41 : decode cX7_line 41 = .ok (.ireturn, 1) := by decide +kernel
theorem dX7_line_42 : decode cX7_line 42 = .ok (.aload_n 0, 1) := by decide +kernel
theorem dX7_line_43 : decode cX7_line 43 = .ok (.invokevirtual 127, 3) := by decide +kernel
theorem dX7_line_46 : decode cX7_line 46 = .ok (.aload_n 0, 1) := by decide +kernel
theorem dX7_line_47 : decode cX7_line 47 = .ok (.getfield 106, 3) := by decide +kernel
theorem dX7_line_50 : decode cX7_line 50 = .ok (.iconst 2, 1) := by decide +kernel
theorem dX7_line_51 : decode cX7_line 51 = .ok (.if_icmp .eq 13, 3) := by decide +kernel
theorem dX7_line_54 : decode cX7_line 54 = .ok (.aload_n 0, 1) := by decide +kernel
theorem dX7_line_55 : decode cX7_line 55 = .ok (.iconst 1, 1) := by decide +kernel
theorem dX7_line_56 : decode cX7_line 56 = .ok (.aload_n 0, 1) := by decide +kernel
theorem dX7_line_57 : decode cX7_line 57 = .ok (.getfield 103, 3) := by decide +kernel
theorem dX7_line_60 : decode cX7_line 60 = .ok (.invokevirtual 123, 3) := by decide +kernel
theorem dX7_line_63 : decode cX7_line 63 = .ok (.ireturn, 1) := by decide +kernel
theorem dX7_line_64 : decode cX7_line 64 = .ok (.aload_n 0, 1) := by decide +kernel
theorem dX7_line_65 : decode cX7_line 65 = .ok (.getfield 117, 3) := by decide +kernel
theorem dX7_line_68 : decode cX7_line 68 = .ok (.iload_n 1, 1) := by decide +kernel
theorem dX7_line_69 : decode cX7_line 69 = .ok (.ifCond .ne 9, 3) := by decide +kernel
theorem dX7_line_72 : decode cX7_line 72 = .ok (.sipush 999, 3) := by decide +kernel
theorem dX7_line_75 : decode cX7_line 75 = .ok (.goto 5, 3) := by decide +kernel
theorem dX7_line_78 : decode cX7_line 78 = .ok (.bipush 9, 2) := by decide +kernel
theorem dX7_line_80 : decode cX7_line 80 = .ok (.if_icmp .gt 16, 3) := by decide +kernel
theorem dX7_line_83 : decode cX7_line 83 = .ok (.iload_n 1, 1) := by decide +kernel
theorem dX7_line_84 : decode cX7_line 84 = .ok (.iconst 1, 1) := by decide +kernel
theorem dX7_line_85 : decode cX7_line 85 = .ok (.if_icmp .ne 21, 3) := by decide +kernel
theorem dX7_line_88 : decode cX7_line 88 = .ok (.aload_n 0, 1) := by decide +kernel
theorem dX7_line_89 : decode cX7_line 89 = .ok (.getfield 117, 3) := by decide +kernel
theorem dX7_line_92 : decode cX7_line 92 = .ok (.iconst 1, 1) := by decide +kernel
theorem dX7_line_93 : decode cX7_line 93 = .ok (.if_icmp .ge 13, 3) := by decide +kernel
theorem dX7_line_96 : decode cX7_line 96 = .ok (.aload_n 0, 1) := by decide +kernel
theorem dX7_line_97 : decode cX7_line 97 = .ok (.iconst 2, 1) := by decide +kernel
theorem dX7_line_98 : decode cX7_line 98 = .ok (.aload_n 0, 1) := by decide +kernel
theorem dX7_line_99 : decode cX7_line 99 = .ok (.getfield 103, 3) := by decide +kernel
theorem dX7_line_102 : decode cX7_line 102 = .ok (.invokevirtual 123, 3) := by decide +kernel
theorem dX7_line_105 : decode cX7_line 105 = .ok (.ireturn, 1) := by decide +kernel
theorem dX7_line_106 : decode cX7_line 106 = .ok (.aload_n 0, 1) := by decide +kernel
theorem dX7_line_107 : decode cX7_line 107 = .ok (.getfield 63, 3) := by decide +kernel
theorem dX7_line_110 : decode cX7_line 110 = .ok (.iload_n 1, 1) := by decide +kernel
theorem dX7_line_111 : decode cX7_line 111 = .ok (.aload_n 0, 1) := by decide +kernel
theorem dX7_line_112 : decode cX7_line 112 = .ok (.getfield 117, 3) := by decide +kernel
theorem dX7_line_115 : decode cX7_line 115 = .ok (.iastore, 1) := by decide +kernel
theorem dX7_line_116 : decode cX7_line 116 = .ok (.aload_n 0, 1) := by decide +kernel
theorem dX7_line_117 : decode cX7_line 117 = .ok (.invokevirtual 127, 3) := by decide +kernel
theorem dX7_line_120 : decode cX7_line 120 = .ok (.aload_n 0, 1) := by decide +kernel
theorem dX7_line_121 : decode cX7_line 121 = .ok (.getfield 106, 3) := by decide +kernel
theorem dX7_line_124 : decode cX7_line 124 = .ok (.iconst 3, 1) := by decide +kernel
theorem dX7_line_125 : decode cX7_line 125 = .ok (.if_icmp .eq 15, 3) := by decide +kernel
theorem dX7_line_128 : decode cX7_line 128 = .ok (.aload_n 0, 1) := by decide +kernel
theorem dX7_line_129 : decode cX7_line 129 = .ok (.iconst 1, 1) := by decide +kernel
theorem dX7_line_130 : decode cX7_line 130 = .ok (.aload_n 0, 1) := by decide +kernel
theorem dX7_line_131 : decode cX7_line 131 = .ok (.getfield 103, 3) := by decide +kernel
theorem dX7_line_134 : decode cX7_line 134 = .ok (.invokevirtual 123, 3) := by decide +kernel
theorem dX7_line_137 : decode cX7_line 137 = .ok (.ifCond .eq 7, 3) := by decide +kernel
theorem dX7_line_140 : decode cX7_line 140 = .ok (.iconst 1, 1) := by decide +kernel
theorem dX7_line_141 : decode cX7_line 141 = .ok (.goto 4, 3) := by decide +kernel
theorem dX7_line_144 : decode cX7_line 144 = .ok (.iconst 0, 1) := by decide +kernel
theorem dX7_line_145 : decode cX7_line 145 = .ok (.ireturn, 1) := by decide +kernel
set_option maxRecDepth 20000 in
theorem ggX7_rules_X7_take : GoodIn wsX7_rules wsX7_take := goodIn_r _ [16, 7, 3, 17, 18, 8, 19, 20, 21, 22, 15, 23, 24, 25, 26, 27, 28, 29, 30, 31, 32, 41, 42, 43, 44, 45, 46, 47, 48, 49, 50, 51, 52, 53, 54, 55, 56, 57, 58, 59, 60, 61, 62, 63, 64, 65, 66, 67, 68, 69, 70, 71, 72, 73, 74, 75, 76, 77, 78, 79, 80, 81, 82, 83] (by decide +kernel) (by decide +kernel)
set_option maxRecDepth 20000 in
theorem gX7_rules_X7_take : GoodIn wsX7_rules (wsV RX7 127 RX7 yX7_take wsX7_take) := goodIn_app (goodIn_of _ (by decide +kernel)) ggX7_rules_X7_take
set_option maxRecDepth 20000 in
theorem ggX7_rules_X7_line : GoodIn wsX7_rules wsX7_line := goodIn_r _ [36, 8, 18, 19, 6, 37, 38, 39, 15, 40, 4, 5, 12, 13, 14, 16, 7, 3, 17, 20, 21, 22, 23, 24, 25, 26, 27, 28, 29, 30, 31, 32, 41, 42, 43, 44, 45, 46, 47, 48, 49, 50, 51, 52, 53, 54, 55, 56, 57, 58, 59, 60, 61, 62, 63, 64, 65, 66, 67, 68, 69, 70, 71, 72, 73, 74, 75, 76, 77, 78, 79, 80, 81, 82, 83] (by decide +kernel) (by decide +kernel)
set_option maxRecDepth 20000 in
theorem gX7_rules_X7_line : GoodIn wsX7_rules (wsV RX7 130 RX7 yX7_line wsX7_line) := goodIn_app (goodIn_of _ (by decide +kernel)) ggX7_rules_X7_line
theorem dX7_rules_0 : decode cX7_rules 0 = .ok (.aload_n 0, 1) := by decide +kernel
theorem dX7_rules_1 : decode cX7_rules 1 = .ok (.iconst 0, 1) := by decide +kernel
theorem dX7_rules_2 : decode cX7_rules 2 = .ok (.putfield 88, 3) := by decide +kernel
theorem dX7_rules_5 : decode cX7_rules 5 = .ok (.iload_n 1, 1) := by decide +kernel
theorem dX7_rules_6 : decode cX7_rules 6 = .ok (.ifCond .lt 11, 3) := by decide +kernel
theorem dX7_rules_9 : decode cX7_rules 9 = .ok (.iload_n 1, 1) := by decide +kernel
theorem dX7_rules_10 : decode cX7_rules 10 = .ok (.aload_n 0, 1) := by decide +kernel
theorem dX7_rules_11 : decode cX7_rules 11 = .ok (.getfield 91, 3) := by decide +kernel
theorem dX7_rules_14 : decode cX7_rules 14 = .ok (.if_icmp .le 6, 3) := by decide +kernel
theorem dX7_rules_17 : decode cX7_rules 17 = .ok (.bipush (-2), 2) := by decide +kernel
theorem dX7_rules_19 : decode cX7_rules 19 = .ok (.ireturn, 1) := by decide +kernel
theorem dX7_rules_20 : decode cX7_rules 20 = .ok (.aload_n 0, 1) := by decide +kernel
theorem dX7_rules_21 : decode cX7_rules 21 = .ok (.iload_n 1, 1) := by decide +kernel
theorem dX7_rules_22 : decode cX7_rules 22 = .ok (.putfield 97, 3) := by decide +kernel
theorem dX7_rules_25 : decode cX7_rules 25 = .ok (.aload_n 0, 1) := by decide +kernel
theorem dX7_rules_26 : decode cX7_rules 26 = .ok (.iconst 0, 1) := by decide +kernel
theorem dX7_rules_27 : decode cX7_rules 27 = .ok (.putfield 91, 3) := by decide +kernel
theorem dX7_rules_30 : decode cX7_rules 30 = .ok (.aload_n 0, 1) := by decide +kernel
theorem dX7_rules_31 : decode cX7_rules 31 = .ok (.iconst 0, 1) := by decide +kernel
theorem dX7_rules_32 : decode cX7_rules 32 = .ok (.putfield 94, 3) := by decide +kernel
theorem dX7_rules_35 : decode cX7_rules 35 = .ok (.aload_n 0, 1) := by decide +kernel
theorem dX7_rules_36 : decode cX7_rules 36 = .ok (.iconst (-1), 1) := by decide +kernel
theorem dX7_rules_37 : decode cX7_rules 37 = .ok (.putfield 20, 3) := by decide +kernel
theorem dX7_rules_40 : decode cX7_rules 40 = .ok (.iconst 0, 1) := by decide +kernel
theorem dX7_rules_41 : decode cX7_rules 41 = .ok (.istore_n 2, 1) := by decide +kernel
theorem dX7_rules_42 : decode cX7_rules 42 = .ok (.iload_n 2, 1) := by decide +kernel
theorem dX7_rules_43 : decode cX7_rules 43 = .ok (.iconst 3, 1) := by decide +kernel
theorem dX7_rules_44 : decode cX7_rules 44 = .ok (.if_icmp .ge 16, 3) := by decide +kernel
theorem dX7_rules_47 : decode cX7_rules 47 = .ok (.aload_n 0, 1) := by decide +kernel
theorem dX7_rules_48 : decode cX7_rules 48 = .ok (.getfield 63, 3) := by decide +kernel
theorem dX7_rules_51 : decode cX7_rules 51 = .ok (.iload_n 2, 1) := by decide +kernel
theorem dX7_rules_52 : decode cX7_rules 52 = .ok (.iconst (-1), 1) := by decide +kernel
theorem dX7_rules_53 : decode cX7_rules 53 = .ok (.iastore, 1) := by decide +kernel
theorem dX7_rules_54 : decode cX7_rules 54 = .ok (.iinc 2 1, 3) := by decide +kernel
theorem dX7_rules_57 : decode cX7_rules 57 = .ok (.goto (-15), 3) := by decide +kernel
theorem dX7_rules_60 : decode cX7_rules 60 = .ok (.aload_n 0, 1) := by decide +kernel
theorem dX7_rules_61 : decode cX7_rules 61 = .ok (.iconst 0, 1) := by decide +kernel
theorem dX7_rules_62 : decode cX7_rules 62 = .ok (.putfield 100, 3) := by decide +kernel
theorem dX7_rules_65 : decode cX7_rules 65 = .ok (.iconst 0, 1) := by decide +kernel
theorem dX7_rules_66 : decode cX7_rules 66 = .ok (.istore_n 2, 1) := by decide +kernel
theorem dX7_rules_67 : decode cX7_rules 67 = .ok (.aload_n 0, 1) := by decide +kernel
theorem dX7_rules_68 : decode cX7_rules 68 = .ok (.invokevirtual 127, 3) := by decide +kernel
theorem dX7_rules_71 : decode cX7_rules 71 = .ok (.aload_n 0, 1) := by decide +kernel
theorem dX7_rules_72 : decode cX7_rules 72 = .ok (.getfield 106, 3) := by decide +kernel
theorem dX7_rules_75 : decode cX7_rules 75 = .ok (.ifCond .eq 22, 3) := by decide +kernel
theorem dX7_rules_78 : decode cX7_rules 78 = .ok (.aload_n 0, 1) := by decide +kernel
theorem dX7_rules_79 : decode cX7_rules 79 = .ok (.invokevirtual 130, 3) := by decide +kernel
theorem dX7_rules_82 : decode cX7_rules 82 = .ok (.ifCond .ne 5, 3) := by decide +kernel
theorem dX7_rules_85 : decode cX7_rules 85 = .ok (.iconst (-1), 1) := by decide +kernel
theorem dX7_rules_86 : decode cX7_rules 86 = .ok (.ireturn, 1) := by decide +kernel
theorem dX7_rules_87 : decode cX7_rules 87 = .ok (.iinc 2 1, 3) := by decide +kernel
theorem dX7_rules_90 : decode cX7_rules 90 = .ok (.aload_n 0, 1) := by decide +kernel
theorem dX7_rules_91 : decode cX7_rules 91 = .ok (.invokevirtual 127, 3) := by decide +kernel
theorem dX7_rules_94 : decode cX7_rules 94 = .ok (.goto (-23), 3) := by decide +kernel
theorem dX7_rules_97 : decode cX7_rules 97 = .ok (.aload_n 0, 1) := by decide +kernel
theorem dX7_rules_98 : decode cX7_rules 98 = .ok (.aload_n 0, 1) := by decide +kernel
theorem dX7_rules_99 : decode cX7_rules 99 = .ok (.getfield 63, 3) := by decide +kernel
theorem dX7_rules_102 : decode cX7_rules 102 = .ok (.iconst 0, 1) := by decide +kernel
theorem dX7_rules_103 : decode cX7_rules 103 = .ok (.iaload, 1) := by decide +kernel
theorem dX7_rules_104 : decode cX7_rules 104 = .ok (.ifCond .ge 9, 3) := by decide +kernel
theorem dX7_rules_107 : decode cX7_rules 107 = .ok (.sipush 999, 3) := by decide +kernel
theorem dX7_rules_110 : decode cX7_rules 110 = .ok (.goto 9, 3) := by decide +kernel
theorem dX7_rules_113 : decode cX7_rules 113 = .ok (.aload_n 0, 1) := by decide +kernel
theorem dX7_rules_114 : decode cX7_rules 114 = .ok (.getfield 63, 3) := by decide +kernel
theorem dX7_rules_117 : decode cX7_rules 117 = .ok (.iconst 0, 1) := by decide +kernel
theorem dX7_rules_118 : decode cX7_rules 118 = .ok (.iaload, 1) := by decide +kernel
theorem dX7_rules_119 : decode cX7_rules 119 = .ok (.putfield 13, 3) := by decide +kernel
theorem dX7_rules_122 : decode cX7_rules 122 = .ok (.aload_n 0, 1) := by decide +kernel
theorem dX7_rules_123 : decode cX7_rules 123 = .ok (.aload_n 0, 1) := by decide +kernel
theorem dX7_rules_124 : decode cX7_rules 124 = .ok (.getfield 63, 3) := by decide +kernel
theorem dX7_rules_127 : decode cX7_rules 127 = .ok (.iconst 1, 1) := by decide +kernel
theorem dX7_rules_128 : decode cX7_rules 128 = .ok (.iaload, 1) := by decide +kernel
theorem dX7_rules_129 : decode cX7_rules 129 = .ok (.ifCond .ge 8, 3) := by decide +kernel
theorem dX7_rules_132 : decode cX7_rules 132 = .ok (.bipush 9, 2) := by decide +kernel
theorem dX7_rules_134 : decode cX7_rules 134 = .ok (.goto 9, 3) := by decide +kernel
theorem dX7_rules_137 : decode cX7_rules 137 = .ok (.aload_n 0, 1) := by decide +kernel
theorem dX7_rules_138 : decode cX7_rules 138 = .ok (.getfield 63, 3) := by decide +kernel
theorem dX7_rules_141 : decode cX7_rules 141 = .ok (.iconst 1, 1) := by decide +kernel
theorem dX7_rules_142 : decode cX7_rules 142 = .ok (.iaload, 1) := by decide +kernel
theorem dX7_rules_143 : decode cX7_rules 143 = .ok (.putfield 17, 3) := by decide +kernel
theorem dX7_rules_146 : decode cX7_rules 146 = .ok (.aload_n 0, 1) := by decide +kernel
theorem dX7_rules_147 : decode cX7_rules 147 = .ok (.aload_n 0, 1) := by decide +kernel
theorem dX7_rules_148 : decode cX7_rules 148 = .ok (.getfield 63, 3) := by decide +kernel
theorem dX7_rules_151 : decode cX7_rules 151 = .ok (.iconst 2, 1) := by decide +kernel
theorem dX7_rules_152 : decode cX7_rules 152 = .ok (.iaload, 1) := by decide +kernel
theorem dX7_rules_153 : decode cX7_rules 153 = .ok (.ifCond .ge 7, 3) := by decide +kernel
theorem dX7_rules_156 : decode cX7_rules 156 = .ok (.iconst 0, 1) := by decide +kernel
theorem dX7_rules_157 : decode cX7_rules 157 = .ok (.goto 9, 3) := by decide +kernel
theorem dX7_rules_160 : decode cX7_rules 160 = .ok (.aload_n 0, 1) := by decide +kernel
theorem dX7_rules_161 : decode cX7_rules 161 = .ok (.getfield 63, 3) := by decide +kernel
theorem dX7_rules_164 : decode cX7_rules 164 = .ok (.iconst 2, 1) := by decide +kernel
theorem dX7_rules_165 : decode cX7_rules 165 = .ok (.iaload, 1) := by decide +kernel
theorem dX7_rules_166 : decode cX7_rules 166 = .ok (.putfield 134, 3) := by decide +kernel
theorem dX7_rules_169 : decode cX7_rules 169 = .ok (.iload_n 2, 1) := by decide +kernel
theorem dX7_rules_170 : decode cX7_rules 170 = .ok (.ireturn, 1) := by decide +kernel
theorem dX7_fault_0 : decode cX7_fault 0 = .ok (.aload_n 0, 1) := by decide +kernel
theorem dX7_fault_1 : decode cX7_fault 1 = .ok (.iconst 0, 1) := by decide +kernel
theorem dX7_fault_2 : decode cX7_fault 2 = .ok (.putfield 88, 3) := by decide +kernel
theorem dX7_fault_5 : decode cX7_fault 5 = .ok (.iload_n 1, 1) := by decide +kernel
theorem dX7_fault_6 : decode cX7_fault 6 = .ok (.ifCond .ne 10, 3) := by decide +kernel
theorem dX7_fault_9 : decode cX7_fault 9 = .ok (.aload_n 0, 1) := by decide +kernel
theorem dX7_fault_10 : decode cX7_fault 10 = .ok (.getfield 94, 3) := by decide +kernel
theorem dX7_fault_13 : decode cX7_fault 13 = .ok (.goto 16, 3) := by decide +kernel
theorem dX7_fault_16 : decode cX7_fault 16 = .ok (.iload_n 1, 1) := by decide +kernel
theorem dX7_fault_17 : decode cX7_fault 17 = .ok (.iconst 1, 1) := by decide +kernel
theorem dX7_fault_18 : decode cX7_fault 18 = .ok (.if_icmp .ne 10, 3) := by decide +kernel
theorem dX7_fault_21 : decode cX7_fault 21 = .ok (.aload_n 0, 1) := by decide +kernel
theorem dX7_fault_22 : decode cX7_fault 22 = .ok (.getfield 20, 3) := by decide +kernel
theorem dX7_fault_25 : decode cX7_fault 25 = .ok (.goto 4, 3) := by decide +kernel
theorem dX7_fault_28 : decode cX7_fault 28 = .ok (.iconst (-1), 1) := by decide +kernel
theorem dX7_fault_29 : decode cX7_fault 29 = .ok (.ireturn, 1) := by decide +kernel
theorem dX7_isPrior_0 : decode cX7_isPrior 0 = .ok (.iload_n 0, 1) := by decide +kernel
theorem dX7_isPrior_1 : decode cX7_isPrior 1 = .ok (.iconst 1, 1) := by decide +kernel
theorem dX7_isPrior_2 : decode cX7_isPrior 2 = .ok (.if_icmp .lt 13, 3) := by decide +kernel
theorem dX7_isPrior_5 : decode cX7_isPrior 5 = .ok (.iload_n 0, 1) := by decide +kernel
theorem dX7_isPrior_6 : decode cX7_isPrior 6 = .ok (.bipush 99, 2) := by decide +kernel
theorem dX7_isPrior_8 : decode cX7_isPrior 8 = .ok (.if_icmp .gt 7, 3) := by decide +kernel
theorem dX7_isPrior_11 : decode cX7_isPrior 11 = .ok (.iconst 1, 1) := by decide +kernel
theorem dX7_isPrior_12 : decode cX7_isPrior 12 = .ok (.goto 4, 3) := by decide +kernel
theorem dX7_isPrior_15 : decode cX7_isPrior 15 = .ok (.iconst 0, 1) := by decide +kernel
theorem dX7_isPrior_16 : decode cX7_isPrior 16 = .ok (.ireturn, 1) := by decide +kernel
set_option maxRecDepth 20000 in
theorem ggX7_rock_X7_isPrior : GoodIn wsX7_rock wsX7_isPrior := goodIn_r _ [8] (by decide +kernel) (by decide +kernel)
set_option maxRecDepth 20000 in
theorem gX7_rock_X7_isPrior : GoodIn wsX7_rock (va_wsS RX7 140 yX7_isPrior wsX7_isPrior) := goodIn_app (goodIn_of _ (by decide +kernel)) ggX7_rock_X7_isPrior
theorem dX7_rock_0 : decode cX7_rock 0 = .ok (.aload_n 0, 1) := by decide +kernel
theorem dX7_rock_1 : decode cX7_rock 1 = .ok (.iconst 0, 1) := by decide +kernel
theorem dX7_rock_2 : decode cX7_rock 2 = .ok (.putfield 88, 3) := by decide +kernel
theorem dX7_rock_5 : decode cX7_rock 5 = .ok (.aload_n 0, 1) := by decide +kernel
theorem dX7_rock_6 : decode cX7_rock 6 = .ok (.getfield 137, 3) := by decide +kernel
theorem dX7_rock_9 : decode cX7_rock 9 = .ok (.iconst 4, 1) := by decide +kernel
theorem dX7_rock_10 : decode cX7_rock 10 = .ok (.if_icmp .eq 24, 3) := by decide +kernel
theorem dX7_rock_13 : decode cX7_rock 13 = .ok (.iload_n 1, 1) := by decide +kernel
theorem dX7_rock_14 : decode cX7_rock 14 = .ok (.invokestatic 140, 3) := by decide +kernel
theorem dX7_rock_17 : decode cX7_rock 17 = .ok (.ifCond .eq 17, 3) := by decide +kernel
theorem dX7_rock_20 : decode cX7_rock 20 = .ok (.iload_n 2, 1) := by decide +kernel
theorem dX7_rock_21 : decode cX7_rock 21 = .ok (.invokestatic 140, 3) := by decide +kernel
theorem dX7_rock_24 : decode cX7_rock 24 = .ok (.ifCond .eq 10, 3) := by decide +kernel
theorem dX7_rock_27 : decode cX7_rock 27 = .ok (.iload_n 3, 1) := by decide +kernel
theorem dX7_rock_28 : decode cX7_rock 28 = .ok (.invokestatic 140, 3) := by decide +kernel
theorem dX7_rock_31 : decode cX7_rock 31 = .ok (.ifCond .ne 5, 3) := by decide +kernel
theorem dX7_rock_34 : decode cX7_rock 34 = .ok (.iconst (-1), 1) := by decide +kernel
theorem dX7_rock_35 : decode cX7_rock 35 = .ok (.ireturn, 1) := by decide +kernel
theorem dX7_rock_36 : decode cX7_rock 36 = .ok (.aload_n 0, 1) := by decide +kernel
theorem dX7_rock_37 : decode cX7_rock 37 = .ok (.getfield 23, 3) := by decide +kernel
theorem dX7_rock_40 : decode cX7_rock 40 = .ok (.iconst 3, 1) := by decide +kernel
theorem dX7_rock_41 : decode cX7_rock 41 = .ok (.aload_n 0, 1) := by decide +kernel
theorem dX7_rock_42 : decode cX7_rock 42 = .ok (.getfield 137, 3) := by decide +kernel
theorem dX7_rock_45 : decode cX7_rock 45 = .ok (.imul, 1) := by decide +kernel
theorem dX7_rock_46 : decode cX7_rock 46 = .ok (.iload_n 1, 1) := by decide +kernel
theorem dX7_rock_47 : decode cX7_rock 47 = .ok (.iastore, 1) := by decide +kernel
theorem dX7_rock_48 : decode cX7_rock 48 = .ok (.aload_n 0, 1) := by decide +kernel
theorem dX7_rock_49 : decode cX7_rock 49 = .ok (.getfield 23, 3) := by decide +kernel
theorem dX7_rock_52 : decode cX7_rock 52 = .ok (.iconst 3, 1) := by decide +kernel
theorem dX7_rock_53 : decode cX7_rock 53 = .ok (.aload_n 0, 1) := by decide +kernel
theorem dX7_rock_54 : decode cX7_rock 54 = .ok (.getfield 137, 3) := by decide +kernel
theorem dX7_rock_57 : decode cX7_rock 57 = .ok (.imul, 1) := by decide +kernel
theorem dX7_rock_58 : decode cX7_rock 58 = .ok (.iconst 1, 1) := by decide +kernel
theorem dX7_rock_59 : decode cX7_rock 59 = .ok (.iadd, 1) := by decide +kernel
theorem dX7_rock_60 : decode cX7_rock 60 = .ok (.iload_n 2, 1) := by decide +kernel
theorem dX7_rock_61 : decode cX7_rock 61 = .ok (.iastore, 1) := by decide +kernel
theorem dX7_rock_62 : decode cX7_rock 62 = .ok (.aload_n 0, 1) := by decide +kernel
theorem dX7_rock_63 : decode cX7_rock 63 = .ok (.getfield 23, 3) := by decide +kernel
theorem dX7_rock_66 : decode cX7_rock 66 = .ok (.iconst 3, 1) := by decide +kernel
theorem dX7_rock_67 : decode cX7_rock 67 = .ok (.aload_n 0, 1) := by decide +kernel
theorem dX7_rock_68 : decode cX7_rock 68 = .ok (.getfield 137, 3) := by decide +kernel
theorem dX7_rock_71 : decode cX7_rock 71 = .ok (.imul, 1) := by decide +kernel
theorem dX7_rock_72 : decode cX7_rock 72 = .ok (.iconst 2, 1) := by decide +kernel
theorem dX7_rock_73 : decode cX7_rock 73 = .ok (.iadd, 1) := by decide +kernel
theorem dX7_rock_74 : decode cX7_rock 74 = .ok (.iload_n 3, 1) := by decide +kernel
theorem dX7_rock_75 : decode cX7_rock 75 = .ok (.iastore, 1) := by decide +kernel
theorem dX7_rock_76 : decode cX7_rock 76 = .ok (.aload_n 0, 1) := by decide +kernel
theorem dX7_rock_77 : decode cX7_rock 77 = .ok (.getfield 26, 3) := by decide +kernel
theorem dX7_rock_80 : decode cX7_rock 80 = .ok (.aload_n 0, 1) := by decide +kernel
theorem dX7_rock_81 : decode cX7_rock 81 = .ok (.getfield 137, 3) := by decide +kernel
theorem dX7_rock_84 : decode cX7_rock 84 = .ok (.iconst 0, 1) := by decide +kernel
theorem dX7_rock_85 : decode cX7_rock 85 = .ok (.iastore, 1) := by decide +kernel
theorem dX7_rock_86 : decode cX7_rock 86 = .ok (.aload_n 0, 1) := by decide +kernel
theorem dX7_rock_87 : decode cX7_rock 87 = .ok (.dup, 1) := by decide +kernel
theorem dX7_rock_88 : decode cX7_rock 88 = .ok (.getfield 137, 3) := by decide +kernel
theorem dX7_rock_91 : decode cX7_rock 91 = .ok (.iconst 1, 1) := by decide +kernel
theorem dX7_rock_92 : decode cX7_rock 92 = .ok (.iadd, 1) := by decide +kernel
theorem dX7_rock_93 : decode cX7_rock 93 = .ok (.putfield 137, 3) := by decide +kernel
theorem dX7_rock_96 : decode cX7_rock 96 = .ok (.aload_n 0, 1) := by decide +kernel
theorem dX7_rock_97 : decode cX7_rock 97 = .ok (.getfield 137, 3) := by decide +kernel
theorem dX7_rock_100 : decode cX7_rock 100 = .ok (.iconst 1, 1) := by decide +kernel
theorem dX7_rock_101 : decode cX7_rock 101 = .ok (.isub, 1) := by decide +kernel
theorem dX7_rock_102 : decode cX7_rock 102 = .ok (.ireturn, 1) := by decide +kernel
theorem dX7_chance_0 : decode cX7_chance 0 = .ok (.aload_n 0, 1) := by decide +kernel
theorem dX7_chance_1 : decode cX7_chance 1 = .ok (.iconst 0, 1) := by decide +kernel
theorem dX7_chance_2 : decode cX7_chance 2 = .ok (.putfield 88, 3) := by decide +kernel
theorem dX7_chance_5 : decode cX7_chance 5 = .ok (.iload_n 1, 1) := by decide +kernel
theorem dX7_chance_6 : decode cX7_chance 6 = .ok (.ifCond .lt 28, 3) := by decide +kernel
theorem dX7_chance_9 : decode cX7_chance 9 = .ok (.iload_n 1, 1) := by decide +kernel
theorem dX7_chance_10 : decode cX7_chance 10 = .ok (.iconst 2, 1) := by decide +kernel
theorem dX7_chance_11 : decode cX7_chance 11 = .ok (.if_icmp .gt 23, 3) := by decide +kernel
theorem dX7_chance_14 : decode cX7_chance 14 = .ok (.iload_n 2, 1) := by decide +kernel
theorem dX7_chance_15 : decode cX7_chance 15 = .ok (.iconst 1, 1) := by decide +kernel
theorem dX7_chance_16 : decode cX7_chance 16 = .ok (.if_icmp .lt 18, 3) := by decide +kernel
theorem dX7_chance_19 : decode cX7_chance 19 = .ok (.iload_n 2, 1) := by decide +kernel
theorem dX7_chance_20 : decode cX7_chance 20 = .ok (.iconst 4, 1) := by decide +kernel
theorem dX7_chance_21 : decode cX7_chance 21 = .ok (.if_icmp .gt 13, 3) := by decide +kernel
theorem dX7_chance_24 : decode cX7_chance 24 = .ok (.iload_n 3, 1) := by decide +kernel
theorem dX7_chance_25 : decode cX7_chance 25 = .ok (.ifCond .lt 9, 3) := by decide +kernel
theorem dX7_chance_28 : decode cX7_chance 28 = .ok (.iload_n 3, 1) := by decide +kernel
theorem dX7_chance_29 : decode cX7_chance 29 = .ok (.bipush 15, 2) := by decide +kernel
theorem dX7_chance_31 : decode cX7_chance 31 = .ok (.if_icmp .le 5, 3) := by decide +kernel
theorem dX7_chance_34 : decode cX7_chance 34 = .ok (.iconst 0, 1) := by decide +kernel
theorem dX7_chance_35 : decode cX7_chance 35 = .ok (.ireturn, 1) := by decide +kernel
theorem dX7_chance_36 : decode cX7_chance 36 = .ok (.aload_n 0, 1) := by decide +kernel
theorem dX7_chance_37 : decode cX7_chance 37 = .ok (.getfield 36, 3) := by decide +kernel
theorem dX7_chance_40 : decode cX7_chance 40 = .ok (.iconst 5, 1) := by decide +kernel
theorem dX7_chance_41 : decode cX7_chance 41 = .ok (.iload_n 1, 1) := by decide +kernel
theorem dX7_chance_42 : decode cX7_chance 42 = .ok (.imul, 1) := by decide +kernel
theorem dX7_chance_43 : decode cX7_chance 43 = .ok (.iload_n 2, 1) := by decide +kernel
theorem dX7_chance_44 : decode cX7_chance 44 = .ok (.iadd, 1) := by decide +kernel
theorem dX7_chance_45 : decode cX7_chance 45 = .ok (.iload_n 3, 1) := by decide +kernel
theorem dX7_chance_46 : decode cX7_chance 46 = .ok (.iastore, 1) := by decide +kernel
theorem dX7_chance_47 : decode cX7_chance 47 = .ok (.iconst 1, 1) := by decide +kernel
theorem dX7_chance_48 : decode cX7_chance 48 = .ok (.ireturn, 1) := by decide +kernel
theorem dX7_village_0 : decode cX7_village 0 = .ok (.aload_n 0, 1) := by decide +kernel
theorem dX7_village_1 : decode cX7_village 1 = .ok (.iconst 0, 1) := by decide +kernel
theorem dX7_village_2 : decode cX7_village 2 = .ok (.putfield 88, 3) := by decide +kernel
theorem dX7_village_5 : decode cX7_village 5 = .ok (.aload_n 0, 1) := by decide +kernel
theorem dX7_village_6 : decode cX7_village 6 = .ok (.getfield 143, 3) := by decide +kernel
theorem dX7_village_9 : decode cX7_village 9 = .ok (.bipush 7, 2) := by decide +kernel
theorem dX7_village_11 : decode cX7_village 11 = .ok (.if_icmp .eq 27, 3) := by decide +kernel
theorem dX7_village_14 : decode cX7_village 14 = .ok (.iload_n 1, 1) := by decide +kernel
theorem dX7_village_15 : decode cX7_village 15 = .ok (.ifCond .lt 23, 3) := by decide +kernel
theorem dX7_village_18 : decode cX7_village 18 = .ok (.iload_n 1, 1) := by decide +kernel
theorem dX7_village_19 : decode cX7_village 19 = .ok (.aload_n 0, 1) := by decide +kernel
theorem dX7_village_20 : decode cX7_village 20 = .ok (.getfield 137, 3) := by decide +kernel
theorem dX7_village_23 : decode cX7_village 23 = .ok (.if_icmp .ge 15, 3) := by decide +kernel
theorem dX7_village_26 : decode cX7_village 26 = .ok (.iload_n 2, 1) := by decide +kernel
theorem dX7_village_27 : decode cX7_village 27 = .ok (.iconst 1, 1) := by decide +kernel
theorem dX7_village_28 : decode cX7_village 28 = .ok (.if_icmp .lt 10, 3) := by decide +kernel
theorem dX7_village_31 : decode cX7_village 31 = .ok (.iload_n 2, 1) := by decide +kernel
theorem dX7_village_32 : decode cX7_village 32 = .ok (.sipush 9999, 3) := by decide +kernel
theorem dX7_village_35 : decode cX7_village 35 = .ok (.if_icmp .le 5, 3) := by decide +kernel
theorem dX7_village_38 : decode cX7_village 38 = .ok (.iconst (-1), 1) := by decide +kernel
theorem dX7_village_39 : decode cX7_village 39 = .ok (.ireturn, 1) := by decide +kernel
theorem dX7_village_40 : decode cX7_village 40 = .ok (.aload_n 0, 1) := by decide +kernel
theorem dX7_village_41 : decode cX7_village 41 = .ok (.dup, 1) := by decide +kernel
theorem dX7_village_42 : decode cX7_village 42 = .ok (.getfield 143, 3) := by decide +kernel
theorem dX7_village_45 : decode cX7_village 45 = .ok (.iconst 1, 1) := by decide +kernel
theorem dX7_village_46 : decode cX7_village 46 = .ok (.iadd, 1) := by decide +kernel
theorem dX7_village_47 : decode cX7_village 47 = .ok (.putfield 143, 3) := by decide +kernel
theorem dX7_village_50 : decode cX7_village 50 = .ok (.aload_n 0, 1) := by decide +kernel
theorem dX7_village_51 : decode cX7_village 51 = .ok (.getfield 39, 3) := by decide +kernel
theorem dX7_village_54 : decode cX7_village 54 = .ok (.aload_n 0, 1) := by decide +kernel
theorem dX7_village_55 : decode cX7_village 55 = .ok (.getfield 143, 3) := by decide +kernel
theorem dX7_village_58 : decode cX7_village 58 = .ok (.iload_n 1, 1) := by decide +kernel
theorem dX7_village_59 : decode cX7_village 59 = .ok (.iastore, 1) := by decide +kernel
theorem dX7_village_60 : decode cX7_village 60 = .ok (.aload_n 0, 1) := by decide +kernel
theorem dX7_village_61 : decode cX7_village 61 = .ok (.getfield 42, 3) := by decide +kernel
theorem dX7_village_64 : decode cX7_village 64 = .ok (.aload_n 0, 1) := by decide +kernel
theorem dX7_village_65 : decode cX7_village 65 = .ok (.getfield 143, 3) := by decide +kernel
theorem dX7_village_68 : decode cX7_village 68 = .ok (.iload_n 2, 1) := by decide +kernel
theorem dX7_village_69 : decode cX7_village 69 = .ok (.iastore, 1) := by decide +kernel
theorem dX7_village_70 : decode cX7_village 70 = .ok (.aload_n 0, 1) := by decide +kernel
theorem dX7_village_71 : decode cX7_village 71 = .ok (.getfield 45, 3) := by decide +kernel
theorem dX7_village_74 : decode cX7_village 74 = .ok (.aload_n 0, 1) := by decide +kernel
theorem dX7_village_75 : decode cX7_village 75 = .ok (.getfield 143, 3) := by decide +kernel
theorem dX7_village_78 : decode cX7_village 78 = .ok (.iconst 0, 1) := by decide +kernel
theorem dX7_village_79 : decode cX7_village 79 = .ok (.iastore, 1) := by decide +kernel
theorem dX7_village_80 : decode cX7_village 80 = .ok (.aload_n 0, 1) := by decide +kernel
theorem dX7_village_81 : decode cX7_village 81 = .ok (.getfield 48, 3) := by decide +kernel
theorem dX7_village_84 : decode cX7_village 84 = .ok (.aload_n 0, 1) := by decide +kernel
theorem dX7_village_85 : decode cX7_village 85 = .ok (.getfield 143, 3) := by decide +kernel
theorem dX7_village_88 : decode cX7_village 88 = .ok (.iconst 0, 1) := by decide +kernel
theorem dX7_village_89 : decode cX7_village 89 = .ok (.iastore, 1) := by decide +kernel
theorem dX7_village_90 : decode cX7_village 90 = .ok (.aload_n 0, 1) := by decide +kernel
theorem dX7_village_91 : decode cX7_village 91 = .ok (.getfield 51, 3) := by decide +kernel
theorem dX7_village_94 : decode cX7_village 94 = .ok (.aload_n 0, 1) := by decide +kernel
theorem dX7_village_95 : decode cX7_village 95 = .ok (.getfield 143, 3) := by decide +kernel
theorem dX7_village_98 : decode cX7_village 98 = .ok (.iconst (-1), 1) := by decide +kernel
theorem dX7_village_99 : decode cX7_village 99 = .ok (.iastore, 1) := by decide +kernel
theorem dX7_village_100 : decode cX7_village 100 = .ok (.aload_n 0, 1) := by decide +kernel
theorem dX7_village_101 : decode cX7_village 101 = .ok (.getfield 54, 3) := by decide +kernel
theorem dX7_village_104 : decode cX7_village 104 = .ok (.aload_n 0, 1) := by decide +kernel
theorem dX7_village_105 : decode cX7_village 105 = .ok (.getfield 143, 3) := by decide +kernel
theorem dX7_village_108 : decode cX7_village 108 = .ok (.iconst 0, 1) := by decide +kernel
theorem dX7_village_109 : decode cX7_village 109 = .ok (.iastore, 1) := by decide +kernel
theorem dX7_village_110 : decode cX7_village 110 = .ok (.aload_n 0, 1) := by decide +kernel
theorem dX7_village_111 : decode cX7_village 111 = .ok (.getfield 143, 3) := by decide +kernel
theorem dX7_village_114 : decode cX7_village 114 = .ok (.ireturn, 1) := by decide +kernel
theorem dX7_isVillage_0 : decode cX7_isVillage 0 = .ok (.iload_n 1, 1) := by decide +kernel
theorem dX7_isVillage_1 : decode cX7_isVillage 1 = .ok (.iconst 1, 1) := by decide +kernel
theorem dX7_isVillage_2 : decode cX7_isVillage 2 = .ok (.if_icmp .lt 15, 3) := by decide +kernel
theorem dX7_isVillage_5 : decode cX7_isVillage 5 = .ok (.iload_n 1, 1) := by decide +kernel
theorem dX7_isVillage_6 : decode cX7_isVillage 6 = .ok (.aload_n 0, 1) := by decide +kernel
theorem dX7_isVillage_7 : decode cX7_isVillage 7 = .ok (.getfield 143, 3) := by decide +kernel
theorem dX7_isVillage_10 : decode cX7_isVillage 10 = .ok (.if_icmp .gt 7, 3) := by decide +kernel
theorem dX7_isVillage_13 : decode cX7_isVillage 13 = .ok (.iconst 1, 1) := by decide +kernel
theorem dX7_isVillage_14 : decode cX7_isVillage 14 = .ok (.goto 4, 3) := by decide +kernel
theorem dX7_isVillage_17 : decode cX7_isVillage 17 = .ok (.iconst 0, 1) := by decide +kernel
theorem dX7_isVillage_18 : decode cX7_isVillage 18 = .ok (.ireturn, 1) := by decide +kernel
theorem dX7_way_0 : decode cX7_way 0 = .ok (.aload_n 0, 1) := by decide +kernel
theorem dX7_way_1 : decode cX7_way 1 = .ok (.iconst 0, 1) := by decide +kernel
theorem dX7_way_2 : decode cX7_way 2 = .ok (.putfield 88, 3) := by decide +kernel
theorem dX7_way_5 : decode cX7_way 5 = .ok (.iload_n 1, 1) := by decide +kernel
theorem dX7_way_6 : decode cX7_way 6 = .ok (.ifCond .lt 44, 3) := by decide +kernel
theorem dX7_way_9 : decode cX7_way 9 = .ok (.iload_n 1, 1) := by decide +kernel
theorem dX7_way_10 : decode cX7_way 10 = .ok (.aload_n 0, 1) := by decide +kernel
theorem dX7_way_11 : decode cX7_way 11 = .ok (.getfield 143, 3) := by decide +kernel
theorem dX7_way_14 : decode cX7_way 14 = .ok (.if_icmp .gt 36, 3) := by decide +kernel
theorem dX7_way_17 : decode cX7_way 17 = .ok (.iload_n 2, 1) := by decide +kernel
theorem dX7_way_18 : decode cX7_way 18 = .ok (.ifCond .lt 32, 3) := by decide +kernel
theorem dX7_way_21 : decode cX7_way 21 = .ok (.iload_n 2, 1) := by decide +kernel
theorem dX7_way_22 : decode cX7_way 22 = .ok (.aload_n 0, 1) := by decide +kernel
theorem dX7_way_23 : decode cX7_way 23 = .ok (.getfield 143, 3) := by decide +kernel
theorem dX7_way_26 : decode cX7_way 26 = .ok (.if_icmp .gt 24, 3) := by decide +kernel
theorem dX7_way_29 : decode cX7_way 29 = .ok (.iload_n 1, 1) := by decide +kernel
theorem dX7_way_30 : decode cX7_way 30 = .ok (.iload_n 2, 1) := by decide +kernel
theorem dX7_way_31 : decode cX7_way 31 = .ok (.if_icmp .eq 19, 3) := by decide +kernel
theorem dX7_way_34 : decode cX7_way 34 = .ok (.iload_n 3, 1) := by decide +kernel
theorem dX7_way_35 : decode cX7_way 35 = .ok (.iconst (-1), 1) := by decide +kernel
theorem dX7_way_36 : decode cX7_way 36 = .ok (.if_icmp .eq 16, 3) := by decide +kernel
theorem dX7_way_39 : decode cX7_way 39 = .ok (.iload_n 3, 1) := by decide +kernel
theorem dX7_way_40 : decode cX7_way 40 = .ok (.iconst 1, 1) := by decide +kernel
theorem dX7_way_41 : decode cX7_way 41 = .ok (.if_icmp .lt 9, 3) := by decide +kernel
theorem dX7_way_44 : decode cX7_way 44 = .ok (.iload_n 3, 1) := by decide +kernel
theorem dX7_way_45 : decode cX7_way 45 = .ok (.bipush 9, 2) := by decide +kernel
theorem dX7_way_47 : decode cX7_way 47 = .ok (.if_icmp .le 5, 3) := by decide +kernel
theorem dX7_way_50 : decode cX7_way 50 = .ok (.iconst 0, 1) := by decide +kernel
theorem dX7_way_51 : decode cX7_way 51 = .ok (.ireturn, 1) := by decide +kernel
theorem dX7_way_52 : decode cX7_way 52 = .ok (.aload_n 0, 1) := by decide +kernel
theorem dX7_way_53 : decode cX7_way 53 = .ok (.getfield 57, 3) := by decide +kernel
theorem dX7_way_56 : decode cX7_way 56 = .ok (.bipush 8, 2) := by decide +kernel
theorem dX7_way_58 : decode cX7_way 58 = .ok (.iload_n 1, 1) := by decide +kernel
theorem dX7_way_59 : decode cX7_way 59 = .ok (.imul, 1) := by decide +kernel
theorem dX7_way_60 : decode cX7_way 60 = .ok (.iload_n 2, 1) := by decide +kernel
theorem dX7_way_61 : decode cX7_way 61 = .ok (.iadd, 1) := by decide +kernel
theorem dX7_way_62 : decode cX7_way 62 = .ok (.iload_n 3, 1) := by decide +kernel
theorem dX7_way_63 : decode cX7_way 63 = .ok (.iastore, 1) := by decide +kernel
theorem dX7_way_64 : decode cX7_way 64 = .ok (.aload_n 0, 1) := by decide +kernel
theorem dX7_way_65 : decode cX7_way 65 = .ok (.getfield 57, 3) := by decide +kernel
theorem dX7_way_68 : decode cX7_way 68 = .ok (.bipush 8, 2) := by decide +kernel
theorem dX7_way_70 : decode cX7_way 70 = .ok (.iload_n 2, 1) := by decide +kernel
theorem dX7_way_71 : decode cX7_way 71 = .ok (.imul, 1) := by decide +kernel
theorem dX7_way_72 : decode cX7_way 72 = .ok (.iload_n 1, 1) := by decide +kernel
theorem dX7_way_73 : decode cX7_way 73 = .ok (.iadd, 1) := by decide +kernel
theorem dX7_way_74 : decode cX7_way 74 = .ok (.iload_n 3, 1) := by decide +kernel
theorem dX7_way_75 : decode cX7_way 75 = .ok (.iastore, 1) := by decide +kernel
theorem dX7_way_76 : decode cX7_way 76 = .ok (.iconst 1, 1) := by decide +kernel
theorem dX7_way_77 : decode cX7_way 77 = .ok (.ireturn, 1) := by decide +kernel
theorem dX7_go_0 : decode cX7_go 0 = .ok (.aload_n 0, 1) := by decide +kernel
theorem dX7_go_1 : decode cX7_go 1 = .ok (.iconst 0, 1) := by decide +kernel
theorem dX7_go_2 : decode cX7_go 2 = .ok (.putfield 88, 3) := by decide +kernel
theorem dX7_go_5 : decode cX7_go 5 = .ok (.iload_n 1, 1) := by decide +kernel
theorem dX7_go_6 : decode cX7_go 6 = .ok (.ifCond .lt 61, 3) := by decide +kernel
theorem dX7_go_9 : decode cX7_go 9 = .ok (.iload_n 1, 1) := by decide +kernel
theorem dX7_go_10 : decode cX7_go 10 = .ok (.aload_n 0, 1) := by decide +kernel
theorem dX7_go_11 : decode cX7_go 11 = .ok (.getfield 143, 3) := by decide +kernel
theorem dX7_go_14 : decode cX7_go 14 = .ok (.if_icmp .gt 53, 3) := by decide +kernel
theorem dX7_go_17 : decode cX7_go 17 = .ok (.iload_n 1, 1) := by decide +kernel
theorem dX7_go_18 : decode cX7_go 18 = .ok (.aload_n 0, 1) := by decide +kernel
theorem dX7_go_19 : decode cX7_go 19 = .ok (.getfield 146, 3) := by decide +kernel
theorem dX7_go_22 : decode cX7_go 22 = .ok (.if_icmp .eq 45, 3) := by decide +kernel
theorem dX7_go_25 : decode cX7_go 25 = .ok (.aload_n 0, 1) := by decide +kernel
theorem dX7_go_26 : decode cX7_go 26 = .ok (.getfield 57, 3) := by decide +kernel
theorem dX7_go_29 : decode cX7_go 29 = .ok (.bipush 8, 2) := by decide +kernel
theorem dX7_go_31 : decode cX7_go 31 = .ok (.aload_n 0, 1) := by decide +kernel
theorem dX7_go_32 : decode cX7_go 32 = .ok (.getfield 146, 3) := by decide +kernel
theorem dX7_go_35 : decode cX7_go 35 = .ok (.imul, 1) := by decide +kernel
theorem dX7_go_36 : decode cX7_go 36 = .ok (.iload_n 1, 1) := by decide +kernel
theorem dX7_go_37 : decode cX7_go 37 = .ok (.iadd, 1) := by decide +kernel
theorem dX7_go_38 : decode cX7_go 38 = .ok (.iaload, 1) := by decide +kernel
theorem dX7_go_39 : decode cX7_go 39 = .ok (.ifCond .lt 28, 3) := by decide +kernel
theorem dX7_go_42 : decode cX7_go 42 = .ok (.aload_n 0, 1) := by decide +kernel
theorem dX7_go_43 : decode cX7_go 43 = .ok (.getfield 149, 3) := by decide +kernel
theorem dX7_go_46 : decode cX7_go 46 = .ok (.aload_n 0, 1) := by decide +kernel
theorem dX7_go_47 : decode cX7_go 47 = .ok (.getfield 57, 3) := by decide +kernel
theorem dX7_go_50 : decode cX7_go 50 = .ok (.bipush 8, 2) := by decide +kernel
theorem dX7_go_52 : decode cX7_go 52 = .ok (.aload_n 0, 1) := by decide +kernel
theorem dX7_go_53 : decode cX7_go 53 = .ok (.getfield 146, 3) := by decide +kernel
theorem dX7_go_56 : decode cX7_go 56 = .ok (.imul, 1) := by decide +kernel
theorem dX7_go_57 : decode cX7_go 57 = .ok (.iload_n 1, 1) := by decide +kernel
theorem dX7_go_58 : decode cX7_go 58 = .ok (.iadd, 1) := by decide +kernel
theorem dX7_go_59 : decode cX7_go 59 = .ok (.iaload, 1) := by decide +kernel
theorem dX7_go_60 : decode cX7_go 60 = .ok (.iadd, 1) := by decide +kernel
theorem dX7_go_61 : decode cX7_go 61 = .ok (.sipush 9999, 3) := by decide +kernel
theorem dX7_go_64 : decode cX7_go 64 = .ok (.if_icmp .le 5, 3) := by decide +kernel
theorem dX7_go_67 : decode cX7_go 67 = .ok (.iconst (-1), 1) := by decide +kernel
theorem dX7_go_68 : decode cX7_go 68 = .ok (.ireturn, 1) := by decide +kernel
theorem dX7_go_69 : decode cX7_go 69 = .ok (.aload_n 0, 1) := by decide +kernel
theorem dX7_go_70 : decode cX7_go 70 = .ok (.dup, 1) := by decide +kernel
theorem dX7_go_71 : decode cX7_go 71 = .ok (.getfield 149, 3) := by decide +kernel
theorem dX7_go_74 : decode cX7_go 74 = .ok (.aload_n 0, 1) := by decide +kernel
theorem dX7_go_75 : decode cX7_go 75 = .ok (.getfield 57, 3) := by decide +kernel
theorem dX7_go_78 : decode cX7_go 78 = .ok (.bipush 8, 2) := by decide +kernel
theorem dX7_go_80 : decode cX7_go 80 = .ok (.aload_n 0, 1) := by decide +kernel
theorem dX7_go_81 : decode cX7_go 81 = .ok (.getfield 146, 3) := by decide +kernel
theorem dX7_go_84 : decode cX7_go 84 = .ok (.imul, 1) := by decide +kernel
theorem dX7_go_85 : decode cX7_go 85 = .ok (.iload_n 1, 1) := by decide +kernel
theorem dX7_go_86 : decode cX7_go 86 = .ok (.iadd, 1) := by decide +kernel
theorem dX7_go_87 : decode cX7_go 87 = .ok (.iaload, 1) := by decide +kernel
theorem dX7_go_88 : decode cX7_go 88 = .ok (.iadd, 1) := by decide +kernel
theorem dX7_go_89 : decode cX7_go 89 = .ok (.putfield 149, 3) := by decide +kernel
theorem dX7_go_92 : decode cX7_go 92 = .ok (.aload_n 0, 1) := by decide +kernel
theorem dX7_go_93 : decode cX7_go 93 = .ok (.iload_n 1, 1) := by decide +kernel
theorem dX7_go_94 : decode cX7_go 94 = .ok (.putfield 146, 3) := by decide +kernel
theorem dX7_go_97 : decode cX7_go 97 = .ok (.aload_n 0, 1) := by decide +kernel
theorem dX7_go_98 : decode cX7_go 98 = .ok (.getfield 149, 3) := by decide +kernel
theorem dX7_go_101 : decode cX7_go 101 = .ok (.ireturn, 1) := by decide +kernel
theorem dX7_drill_0 : decode cX7_drill 0 = .ok (.aload_n 0, 1) := by decide +kernel
theorem dX7_drill_1 : decode cX7_drill 1 = .ok (.iconst 0, 1) := by decide +kernel
theorem dX7_drill_2 : decode cX7_drill 2 = .ok (.putfield 88, 3) := by decide +kernel
theorem dX7_drill_5 : decode cX7_drill 5 = .ok (.aload_n 0, 1) := by decide +kernel
theorem dX7_drill_6 : decode cX7_drill 6 = .ok (.getfield 146, 3) := by decide +kernel
theorem dX7_drill_9 : decode cX7_drill 9 = .ok (.ifCond .eq 40, 3) := by decide +kernel
theorem dX7_drill_12 : decode cX7_drill 12 = .ok (.aload_n 0, 1) := by decide +kernel
theorem dX7_drill_13 : decode cX7_drill 13 = .ok (.getfield 48, 3) := by decide +kernel
theorem dX7_drill_16 : decode cX7_drill 16 = .ok (.aload_n 0, 1) := by decide +kernel
theorem dX7_drill_17 : decode cX7_drill 17 = .ok (.getfield 146, 3) := by decide +kernel
theorem dX7_drill_20 : decode cX7_drill 20 = .ok (.iaload, 1) := by decide +kernel
theorem dX7_drill_21 : decode cX7_drill 21 = .ok (.ifCond .gt 28, 3) := by decide +kernel
theorem dX7_drill_24 : decode cX7_drill 24 = .ok (.iload_n 1, 1) := by decide +kernel
theorem dX7_drill_25 : decode cX7_drill 25 = .ok (.iconst 1, 1) := by decide +kernel
theorem dX7_drill_26 : decode cX7_drill 26 = .ok (.if_icmp .lt 23, 3) := by decide +kernel
theorem dX7_drill_29 : decode cX7_drill 29 = .ok (.iload_n 1, 1) := by decide +kernel
theorem dX7_drill_30 : decode cX7_drill 30 = .ok (.iconst 4, 1) := by decide +kernel
theorem dX7_drill_31 : decode cX7_drill 31 = .ok (.if_icmp .gt 18, 3) := by decide +kernel
theorem dX7_drill_34 : decode cX7_drill 34 = .ok (.iload_n 2, 1) := by decide +kernel
theorem dX7_drill_35 : decode cX7_drill 35 = .ok (.ifCond .eq 16, 3) := by decide +kernel
theorem dX7_drill_38 : decode cX7_drill 38 = .ok (.iload_n 3, 1) := by decide +kernel
theorem dX7_drill_39 : decode cX7_drill 39 = .ok (.ifCond .lt 10, 3) := by decide +kernel
theorem dX7_drill_42 : decode cX7_drill 42 = .ok (.iload_n 3, 1) := by decide +kernel
theorem dX7_drill_43 : decode cX7_drill 43 = .ok (.sipush 999, 3) := by decide +kernel
theorem dX7_drill_46 : decode cX7_drill 46 = .ok (.if_icmp .le 5, 3) := by decide +kernel
theorem dX7_drill_49 : decode cX7_drill 49 = .ok (.iconst (-1), 1) := by decide +kernel
theorem dX7_drill_50 : decode cX7_drill 50 = .ok (.ireturn, 1) := by decide +kernel
theorem dX7_drill_51 : decode cX7_drill 51 = .ok (.aload_n 0, 1) := by decide +kernel
theorem dX7_drill_52 : decode cX7_drill 52 = .ok (.getfield 39, 3) := by decide +kernel
theorem dX7_drill_55 : decode cX7_drill 55 = .ok (.aload_n 0, 1) := by decide +kernel
theorem dX7_drill_56 : decode cX7_drill 56 = .ok (.getfield 146, 3) := by decide +kernel
theorem dX7_drill_59 : decode cX7_drill 59 = .ok (.iaload, 1) := by decide +kernel
theorem dX7_drill_60 : decode cX7_drill 60 = .ok (.istore 4, 2) := by decide +kernel
theorem dX7_drill_62 : decode cX7_drill 62 = .ok (.aload_n 0, 1) := by decide +kernel
theorem dX7_drill_63 : decode cX7_drill 63 = .ok (.getfield 26, 3) := by decide +kernel
theorem dX7_drill_66 : decode cX7_drill 66 = .ok (.iload 4, 2) := by decide +kernel
theorem dX7_drill_68 : decode cX7_drill 68 = .ok (.iaload, 1) := by decide +kernel
theorem dX7_drill_69 : decode cX7_drill 69 = .ok (.iload_n 1, 1) := by decide +kernel
theorem dX7_drill_70 : decode cX7_drill 70 = .ok (.iadd, 1) := by decide +kernel
theorem dX7_drill_71 : decode cX7_drill 71 = .ok (.bipush 8, 2) := by decide +kernel
theorem dX7_drill_73 : decode cX7_drill 73 = .ok (.if_icmp .gt 20, 3) := by decide +kernel
theorem dX7_drill_76 : decode cX7_drill 76 = .ok (.aload_n 0, 1) := by decide +kernel
theorem dX7_drill_77 : decode cX7_drill 77 = .ok (.getfield 149, 3) := by decide +kernel
theorem dX7_drill_80 : decode cX7_drill 80 = .ok (.iload_n 1, 1) := by decide +kernel
theorem dX7_drill_81 : decode cX7_drill 81 = .ok (.iadd, 1) := by decide +kernel
theorem dX7_drill_82 : decode cX7_drill 82 = .ok (.aload_n 0, 1) := by decide +kernel
theorem dX7_drill_83 : decode cX7_drill 83 = .ok (.getfield 134, 3) := by decide +kernel
theorem dX7_drill_86 : decode cX7_drill 86 = .ok (.iadd, 1) := by decide +kernel
theorem dX7_drill_87 : decode cX7_drill 87 = .ok (.sipush 9999, 3) := by decide +kernel
theorem dX7_drill_90 : decode cX7_drill 90 = .ok (.if_icmp .le 5, 3) := by decide +kernel
