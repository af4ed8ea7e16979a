theorem dX7_drill_93 : decode cX7_drill 93 = .ok (.iconst (-1), 1) := by decide +kernel
theorem dX7_drill_94 : decode cX7_drill 94 = .ok (.ireturn, 1) := by decide +kernel
theorem dX7_drill_95 : decode cX7_drill 95 = .ok (.iconst 1, 1) := by decide +kernel
theorem dX7_drill_96 : decode cX7_drill 96 = .ok (.istore 5, 2) := by decide +kernel
theorem dX7_drill_98 : decode cX7_drill 98 = .ok (.iload 5, 2) := by decide +kernel
theorem dX7_drill_100 : decode cX7_drill 100 = .ok (.iload_n 1, 1) := by decide +kernel
theorem dX7_drill_101 : decode cX7_drill 101 = .ok (.if_icmp .gt 73, 3) := by decide +kernel
theorem dX7_drill_104 : decode cX7_drill 104 = .ok (.aload_n 0, 1) := by decide +kernel
theorem dX7_drill_105 : decode cX7_drill 105 = .ok (.getfield 29, 3) := by decide +kernel
theorem dX7_drill_108 : decode cX7_drill 108 = .ok (.bipush 8, 2) := by decide +kernel
theorem dX7_drill_110 : decode cX7_drill 110 = .ok (.iload 4, 2) := by decide +kernel
theorem dX7_drill_112 : decode cX7_drill 112 = .ok (.imul, 1) := by decide +kernel
theorem dX7_drill_113 : decode cX7_drill 113 = .ok (.aload_n 0, 1) := by decide +kernel
theorem dX7_drill_114 : decode cX7_drill 114 = .ok (.getfield 26, 3) := by decide +kernel
theorem dX7_drill_117 : decode cX7_drill 117 = .ok (.iload 4, 2) := by decide +kernel
theorem dX7_drill_119 : decode cX7_drill 119 = .ok (.iaload, 1) := by decide +kernel
theorem dX7_drill_120 : decode cX7_drill 120 = .ok (.iadd, 1) := by decide +kernel
theorem dX7_drill_121 : decode cX7_drill 121 = .ok (.iload 5, 2) := by decide +kernel
theorem dX7_drill_123 : decode cX7_drill 123 = .ok (.iastore, 1) := by decide +kernel
theorem dX7_drill_124 : decode cX7_drill 124 = .ok (.aload_n 0, 1) := by decide +kernel
theorem dX7_drill_125 : decode cX7_drill 125 = .ok (.getfield 32, 3) := by decide +kernel
theorem dX7_drill_128 : decode cX7_drill 128 = .ok (.bipush 8, 2) := by decide +kernel
theorem dX7_drill_130 : decode cX7_drill 130 = .ok (.iload 4, 2) := by decide +kernel
theorem dX7_drill_132 : decode cX7_drill 132 = .ok (.imul, 1) := by decide +kernel
theorem dX7_drill_133 : decode cX7_drill 133 = .ok (.aload_n 0, 1) := by decide +kernel
theorem dX7_drill_134 : decode cX7_drill 134 = .ok (.getfield 26, 3) := by decide +kernel
theorem dX7_drill_137 : decode cX7_drill 137 = .ok (.iload 4, 2) := by decide +kernel
theorem dX7_drill_139 : decode cX7_drill 139 = .ok (.iaload, 1) := by decide +kernel
theorem dX7_drill_140 : decode cX7_drill 140 = .ok (.iadd, 1) := by decide +kernel
theorem dX7_drill_141 : decode cX7_drill 141 = .ok (.iload_n 2, 1) := by decide +kernel
theorem dX7_drill_142 : decode cX7_drill 142 = .ok (.ifCond .eq 13, 3) := by decide +kernel
theorem dX7_drill_145 : decode cX7_drill 145 = .ok (.iload 5, 2) := by decide +kernel
theorem dX7_drill_147 : decode cX7_drill 147 = .ok (.iload_n 1, 1) := by decide +kernel
theorem dX7_drill_148 : decode cX7_drill 148 = .ok (.if_icmp .ne 7, 3) := by decide +kernel
theorem dX7_drill_151 : decode cX7_drill 151 = .ok (.iconst 1, 1) := by decide +kernel
theorem dX7_drill_152 : decode cX7_drill 152 = .ok (.goto 4, 3) := by decide +kernel
theorem dX7_drill_155 : decode cX7_drill 155 = .ok (.iconst 0, 1) := by decide +kernel
theorem dX7_drill_156 : decode cX7_drill 156 = .ok (.bastore, 1) := by decide +kernel
theorem dX7_drill_157 : decode cX7_drill 157 = .ok (.aload_n 0, 1) := by decide +kernel
theorem dX7_drill_158 : decode cX7_drill 158 = .ok (.getfield 26, 3) := by decide +kernel
theorem dX7_drill_161 : decode cX7_drill 161 = .ok (.iload 4, 2) := by decide +kernel
theorem dX7_drill_163 : decode cX7_drill 163 = .ok (.dup2, 1) := by decide +kernel
theorem dX7_drill_164 : decode cX7_drill 164 = .ok (.iaload, 1) := by decide +kernel
theorem dX7_drill_165 : decode cX7_drill 165 = .ok (.iconst 1, 1) := by decide +kernel
theorem dX7_drill_166 : decode cX7_drill 166 = .ok (.iadd, 1) := by decide +kernel
theorem dX7_drill_167 : decode cX7_drill 167 = .ok (.iastore, 1) := by decide +kernel
theorem dX7_drill_168 : decode cX7_drill 168 = .ok (.iinc 5 1, 3) := by decide +kernel
theorem dX7_drill_171 : decode cX7_drill 171 = .ok (.goto (-73), 3) := by decide +kernel
theorem dX7_drill_174 : decode cX7_drill 174 = .ok (.aload_n 0, 1) := by decide +kernel
theorem dX7_drill_175 : decode cX7_drill 175 = .ok (.dup, 1) := by decide +kernel
theorem dX7_drill_176 : decode cX7_drill 176 = .ok (.getfield 152, 3) := by decide +kernel
theorem dX7_drill_179 : decode cX7_drill 179 = .ok (.iload_n 1, 1) := by decide +kernel
theorem dX7_drill_180 : decode cX7_drill 180 = .ok (.iadd, 1) := by decide +kernel
theorem dX7_drill_181 : decode cX7_drill 181 = .ok (.putfield 152, 3) := by decide +kernel
theorem dX7_drill_184 : decode cX7_drill 184 = .ok (.aload_n 0, 1) := by decide +kernel
theorem dX7_drill_185 : decode cX7_drill 185 = .ok (.dup, 1) := by decide +kernel
theorem dX7_drill_186 : decode cX7_drill 186 = .ok (.getfield 149, 3) := by decide +kernel
theorem dX7_drill_189 : decode cX7_drill 189 = .ok (.iload_n 1, 1) := by decide +kernel
theorem dX7_drill_190 : decode cX7_drill 190 = .ok (.aload_n 0, 1) := by decide +kernel
theorem dX7_drill_191 : decode cX7_drill 191 = .ok (.getfield 134, 3) := by decide +kernel
theorem dX7_drill_194 : decode cX7_drill 194 = .ok (.iadd, 1) := by decide +kernel
theorem dX7_drill_195 : decode cX7_drill 195 = .ok (.iadd, 1) := by decide +kernel
theorem dX7_drill_196 : decode cX7_drill 196 = .ok (.putfield 149, 3) := by decide +kernel
theorem dX7_drill_199 : decode cX7_drill 199 = .ok (.iload_n 2, 1) := by decide +kernel
theorem dX7_drill_200 : decode cX7_drill 200 = .ok (.ifCond .eq 23, 3) := by decide +kernel
theorem dX7_drill_203 : decode cX7_drill 203 = .ok (.iload_n 3, 1) := by decide +kernel
theorem dX7_drill_204 : decode cX7_drill 204 = .ok (.aload_n 0, 1) := by decide +kernel
theorem dX7_drill_205 : decode cX7_drill 205 = .ok (.getfield 13, 3) := by decide +kernel
theorem dX7_drill_208 : decode cX7_drill 208 = .ok (.if_icmp .gt 15, 3) := by decide +kernel
theorem dX7_drill_211 : decode cX7_drill 211 = .ok (.aload_n 0, 1) := by decide +kernel
theorem dX7_drill_212 : decode cX7_drill 212 = .ok (.getfield 48, 3) := by decide +kernel
theorem dX7_drill_215 : decode cX7_drill 215 = .ok (.aload_n 0, 1) := by decide +kernel
theorem dX7_drill_216 : decode cX7_drill 216 = .ok (.getfield 146, 3) := by decide +kernel
theorem dX7_drill_219 : decode cX7_drill 219 = .ok (.iload_n 1, 1) := by decide +kernel
theorem dX7_drill_220 : decode cX7_drill 220 = .ok (.iastore, 1) := by decide +kernel
theorem dX7_drill_221 : decode cX7_drill 221 = .ok (.iconst 1, 1) := by decide +kernel
theorem dX7_drill_222 : decode cX7_drill 222 = .ok (.ireturn, 1) := by decide +kernel
theorem dX7_drill_223 : decode cX7_drill 223 = .ok (.aload_n 0, 1) := by decide +kernel
theorem dX7_drill_224 : decode cX7_drill 224 = .ok (.getfield 45, 3) := by decide +kernel
theorem dX7_drill_227 : decode cX7_drill 227 = .ok (.aload_n 0, 1) := by decide +kernel
theorem dX7_drill_228 : decode cX7_drill 228 = .ok (.getfield 146, 3) := by decide +kernel
theorem dX7_drill_231 : decode cX7_drill 231 = .ok (.dup2, 1) := by decide +kernel
theorem dX7_drill_232 : decode cX7_drill 232 = .ok (.iaload, 1) := by decide +kernel
theorem dX7_drill_233 : decode cX7_drill 233 = .ok (.iconst 1, 1) := by decide +kernel
theorem dX7_drill_234 : decode cX7_drill 234 = .ok (.iadd, 1) := by decide +kernel
theorem dX7_drill_235 : decode cX7_drill 235 = .ok (.iastore, 1) := by decide +kernel
theorem dX7_drill_236 : decode cX7_drill 236 = .ok (.iload_n 2, 1) := by decide +kernel
theorem dX7_drill_237 : decode cX7_drill 237 = .ok (.ifCond .eq 7, 3) := by decide +kernel
theorem dX7_drill_240 : decode cX7_drill 240 = .ok (.iconst 2, 1) := by decide +kernel
theorem dX7_drill_241 : decode cX7_drill 241 = .ok (.goto 4, 3) := by decide +kernel
theorem dX7_drill_244 : decode cX7_drill 244 = .ok (.iconst 0, 1) := by decide +kernel
theorem dX7_drill_245 : decode cX7_drill 245 = .ok (.ireturn, 1) := by decide +kernel
theorem dX7_weights_0 : decode cX7_weights 0 = .ok (.lconst 0, 1) := by decide +kernel
theorem dX7_weights_1 : decode cX7_weights 1 = .ok (.lstore_n 2, 1) := by decide +kernel
theorem dX7_weights_2 : decode cX7_weights 2 = .ok (.iconst 0, 1) := by decide +kernel
theorem dX7_weights_3 : decode cX7_weights 3 = .ok (.istore 4, 2) := by decide +kernel
theorem dX7_weights_5 : decode cX7_weights 5 = .ok (.iload 4, 2) := by decide +kernel
theorem dX7_weights_7 : decode cX7_weights 7 = .ok (.iconst 3, 1) := by decide +kernel
theorem dX7_weights_8 : decode cX7_weights 8 = .ok (.if_icmp .ge 119, 3) := by decide +kernel
theorem dX7_weights_11 : decode cX7_weights 11 = .ok (.aload_n 0, 1) := by decide +kernel
theorem dX7_weights_12 : decode cX7_weights 12 = .ok (.getfield 66, 3) := by decide +kernel
theorem dX7_weights_15 : decode cX7_weights 15 = .ok (.iload 4, 2) := by decide +kernel
theorem dX7_weights_17 : decode cX7_weights 17 = .ok (.aload_n 0, 1) := by decide +kernel
theorem dX7_weights_18 : decode cX7_weights 18 = .ok (.getfield 23, 3) := by decide +kernel
theorem dX7_weights_21 : decode cX7_weights 21 = .ok (.iconst 3, 1) := by decide +kernel
theorem dX7_weights_22 : decode cX7_weights 22 = .ok (.iload_n 1, 1) := by decide +kernel
theorem dX7_weights_23 : decode cX7_weights 23 = .ok (.imul, 1) := by decide +kernel
theorem dX7_weights_24 : decode cX7_weights 24 = .ok (.iload 4, 2) := by decide +kernel
theorem dX7_weights_26 : decode cX7_weights 26 = .ok (.iadd, 1) := by decide +kernel
theorem dX7_weights_27 : decode cX7_weights 27 = .ok (.iaload, 1) := by decide +kernel
theorem dX7_weights_28 : decode cX7_weights 28 = .ok (.i2l, 1) := by decide +kernel
theorem dX7_weights_29 : decode cX7_weights 29 = .ok (.lastore, 1) := by decide +kernel
theorem dX7_weights_30 : decode cX7_weights 30 = .ok (.iconst 0, 1) := by decide +kernel
theorem dX7_weights_31 : decode cX7_weights 31 = .ok (.istore 5, 2) := by decide +kernel
theorem dX7_weights_33 : decode cX7_weights 33 = .ok (.iload 5, 2) := by decide +kernel
theorem dX7_weights_35 : decode cX7_weights 35 = .ok (.aload_n 0, 1) := by decide +kernel
theorem dX7_weights_36 : decode cX7_weights 36 = .ok (.getfield 26, 3) := by decide +kernel
theorem dX7_weights_39 : decode cX7_weights 39 = .ok (.iload_n 1, 1) := by decide +kernel
theorem dX7_weights_40 : decode cX7_weights 40 = .ok (.iaload, 1) := by decide +kernel
theorem dX7_weights_41 : decode cX7_weights 41 = .ok (.if_icmp .ge 70, 3) := by decide +kernel
theorem dX7_weights_44 : decode cX7_weights 44 = .ok (.aload_n 0, 1) := by decide +kernel
theorem dX7_weights_45 : decode cX7_weights 45 = .ok (.getfield 36, 3) := by decide +kernel
theorem dX7_weights_48 : decode cX7_weights 48 = .ok (.iconst 5, 1) := by decide +kernel
theorem dX7_weights_49 : decode cX7_weights 49 = .ok (.iload 4, 2) := by decide +kernel
theorem dX7_weights_51 : decode cX7_weights 51 = .ok (.imul, 1) := by decide +kernel
theorem dX7_weights_52 : decode cX7_weights 52 = .ok (.aload_n 0, 1) := by decide +kernel
theorem dX7_weights_53 : decode cX7_weights 53 = .ok (.getfield 29, 3) := by decide +kernel
theorem dX7_weights_56 : decode cX7_weights 56 = .ok (.bipush 8, 2) := by decide +kernel
theorem dX7_weights_58 : decode cX7_weights 58 = .ok (.iload_n 1, 1) := by decide +kernel
theorem dX7_weights_59 : decode cX7_weights 59 = .ok (.imul, 1) := by decide +kernel
theorem dX7_weights_60 : decode cX7_weights 60 = .ok (.iload 5, 2) := by decide +kernel
theorem dX7_weights_62 : decode cX7_weights 62 = .ok (.iadd, 1) := by decide +kernel
theorem dX7_weights_63 : decode cX7_weights 63 = .ok (.iaload, 1) := by decide +kernel
theorem dX7_weights_64 : decode cX7_weights 64 = .ok (.iadd, 1) := by decide +kernel
theorem dX7_weights_65 : decode cX7_weights 65 = .ok (.iaload, 1) := by decide +kernel
theorem dX7_weights_66 : decode cX7_weights 66 = .ok (.istore 6, 2) := by decide +kernel
theorem dX7_weights_68 : decode cX7_weights 68 = .ok (.aload_n 0, 1) := by decide +kernel
theorem dX7_weights_69 : decode cX7_weights 69 = .ok (.getfield 66, 3) := by decide +kernel
theorem dX7_weights_72 : decode cX7_weights 72 = .ok (.iload 4, 2) := by decide +kernel
theorem dX7_weights_74 : decode cX7_weights 74 = .ok (.dup2, 1) := by decide +kernel
theorem dX7_weights_75 : decode cX7_weights 75 = .ok (.laload, 1) := by decide +kernel
theorem dX7_weights_76 : decode cX7_weights 76 = .ok (.aload_n 0, 1) := by decide +kernel
theorem dX7_weights_77 : decode cX7_weights 77 = .ok (.getfield 32, 3) := by decide +kernel
theorem dX7_weights_80 : decode cX7_weights 80 = .ok (.bipush 8, 2) := by decide +kernel
theorem dX7_weights_82 : decode cX7_weights 82 = .ok (.iload_n 1, 1) := by decide +kernel
theorem dX7_weights_83 : decode cX7_weights 83 = .ok (.imul, 1) := by decide +kernel
theorem dX7_weights_84 : decode cX7_weights 84 = .ok (.iload 5, 2) := by decide +kernel
theorem dX7_weights_86 : decode cX7_weights 86 = .ok (.iadd, 1) := by decide +kernel
theorem dX7_weights_87 : decode cX7_weights 87 = .ok (.baload, 1) := by decide +kernel
theorem dX7_weights_88 : decode cX7_weights 88 = .ok (.ifCond .eq 9, 3) := by decide +kernel
theorem dX7_weights_91 : decode cX7_weights 91 = .ok (.iload 6, 2) := by decide +kernel
theorem dX7_weights_93 : decode cX7_weights 93 = .ok (.i2l, 1) := by decide +kernel
theorem dX7_weights_94 : decode cX7_weights 94 = .ok (.goto 9, 3) := by decide +kernel
theorem dX7_weights_97 : decode cX7_weights 97 = .ok (.bipush 16, 2) := by decide +kernel
theorem dX7_weights_99 : decode cX7_weights 99 = .ok (.iload 6, 2) := by decide +kernel
theorem dX7_weights_101 : decode cX7_weights 101 = .ok (.isub, 1) := by decide +kernel
theorem dX7_weights_102 : decode cX7_weights 102 = .ok (.i2l, 1) := by decide +kernel
theorem dX7_weights_103 : decode cX7_weights 103 = .ok (.lmul, 1) := by decide +kernel
theorem dX7_weights_104 : decode cX7_weights 104 = .ok (.lastore, 1) := by decide +kernel
theorem dX7_weights_105 : decode cX7_weights 105 = .ok (.iinc 5 1, 3) := by decide +kernel
theorem dX7_weights_108 : decode cX7_weights 108 = .ok (.goto (-75), 3) := by decide +kernel
theorem dX7_weights_111 : decode cX7_weights 111 = .ok (.lload_n 2, 1) := by decide +kernel
theorem dX7_weights_112 : decode cX7_weights 112 = .ok (.aload_n 0, 1) := by decide +kernel
theorem dX7_weights_113 : decode cX7_weights 113 = .ok (.getfield 66, 3) := by decide +kernel
theorem dX7_weights_116 : decode cX7_weights 116 = .ok (.iload 4, 2) := by decide +kernel
theorem dX7_weights_118 : decode cX7_weights 118 = .ok (.laload, 1) := by decide +kernel
theorem dX7_weights_119 : decode cX7_weights 119 = .ok (.ladd, 1) := by decide +kernel
theorem dX7_weights_120 : decode cX7_weights 120 = .ok (.lstore_n 2, 1) := by decide +kernel
theorem dX7_weights_121 : decode cX7_weights 121 = .ok (.iinc 4 1, 3) := by decide +kernel
theorem dX7_weights_124 : decode cX7_weights 124 = .ok (.goto (-119), 3) := by decide +kernel
theorem dX7_weights_127 : decode cX7_weights 127 = .ok (.lload_n 2, 1) := by decide +kernel
theorem dX7_weights_128 : decode cX7_weights 128 = .ok (.lreturn, 1) := by decide +kernel
theorem dX7_divisor_0 : decode cX7_divisor 0 = .ok (.lload_n 0, 1) := by decide +kernel
theorem dX7_divisor_1 : decode cX7_divisor 1 = .ok (.lstore 4, 2) := by decide +kernel
theorem dX7_divisor_3 : decode cX7_divisor 3 = .ok (.lload_n 2, 1) := by decide +kernel
theorem dX7_divisor_4 : decode cX7_divisor 4 = .ok (.lstore 6, 2) := by decide +kernel
theorem dX7_divisor_6 : decode cX7_divisor 6 = .ok (.lload 6, 2) := by decide +kernel
theorem dX7_divisor_8 : decode cX7_divisor 8 = .ok (.lconst 0, 1) := by decide +kernel
theorem dX7_divisor_9 : decode cX7_divisor 9 = .ok (.lcmp, 1) := by decide +kernel
theorem dX7_divisor_10 : decode cX7_divisor 10 = .ok (.ifCond .eq 21, 3) := by decide +kernel
theorem dX7_divisor_13 : decode cX7_divisor 13 = .ok (.lload 4, 2) := by decide +kernel
theorem dX7_divisor_15 : decode cX7_divisor 15 = .ok (.lload 6, 2) := by decide +kernel
theorem dX7_divisor_17 : decode cX7_divisor 17 = .ok (.lrem, 1) := by decide +kernel
theorem dX7_divisor_18 : decode cX7_divisor 18 = .ok (.lstore 8, 2) := by decide +kernel
theorem dX7_divisor_20 : decode cX7_divisor 20 = .ok (.lload 6, 2) := by decide +kernel
theorem dX7_divisor_22 : decode cX7_divisor 22 = .ok (.lstore 4, 2) := by decide +kernel
theorem dX7_divisor_24 : decode cX7_divisor 24 = .ok (.lload 8, 2) := by decide +kernel
theorem dX7_divisor_26 : decode cX7_divisor 26 = .ok (.lstore 6, 2) := by decide +kernel
theorem dX7_divisor_28 : decode cX7_divisor 28 = .ok (.goto (-22), 3) := by decide +kernel
theorem dX7_divisor_31 : decode cX7_divisor 31 = .ok (.lload 4, 2) := by decide +kernel
theorem dX7_divisor_33 : decode cX7_divisor 33 = .ok (.lreturn, 1) := by decide +kernel
set_option maxRecDepth 20000 in
theorem ggX7_likely_X7_weights : GoodIn wsX7_likely wsX7_weights := goodIn_r _ [9, 4, 10, 11, 12, 13, 14, 18, 19, 20, 21, 22, 23, 24, 25, 26, 27, 28, 29, 30, 31, 32, 33, 34, 35, 36, 37, 38, 39, 40, 41, 42, 43, 44, 45, 46, 47, 48, 49, 50, 51, 52, 53, 54, 55, 56, 57, 58, 59, 60] (by decide +kernel) (by decide +kernel)
set_option maxRecDepth 20000 in
theorem gX7_likely_X7_weights : GoodIn wsX7_likely (wsV RX7 157 RX7 yX7_weights wsX7_weights) := goodIn_app (goodIn_of _ (by decide +kernel)) ggX7_likely_X7_weights
set_option maxRecDepth 20000 in
theorem ggX7_likely_X7_divisor : GoodIn wsX7_likely wsX7_divisor := goodIn_r _ [17] (by decide +kernel) (by decide +kernel)
set_option maxRecDepth 20000 in
theorem gX7_likely_X7_divisor : GoodIn wsX7_likely (va_wsS RX7 161 yX7_divisor wsX7_divisor) := goodIn_app (goodIn_of _ (by decide +kernel)) ggX7_likely_X7_divisor
theorem dX7_likely_0 : decode cX7_likely 0 = .ok (.aload_n 0, 1) := by decide +kernel
theorem dX7_likely_1 : decode cX7_likely 1 = .ok (.iconst 0, 1) := by decide +kernel
theorem dX7_likely_2 : decode cX7_likely 2 = .ok (.putfield 88, 3) := by decide +kernel
theorem dX7_likely_5 : decode cX7_likely 5 = .ok (.iload_n 1, 1) := by decide +kernel
theorem dX7_likely_6 : decode cX7_likely 6 = .ok (.ifCond .lt 29, 3) := by decide +kernel
theorem dX7_likely_9 : decode cX7_likely 9 = .ok (.iload_n 1, 1) := by decide +kernel
theorem dX7_likely_10 : decode cX7_likely 10 = .ok (.aload_n 0, 1) := by decide +kernel
theorem dX7_likely_11 : decode cX7_likely 11 = .ok (.getfield 137, 3) := by decide +kernel
theorem dX7_likely_14 : decode cX7_likely 14 = .ok (.if_icmp .ge 21, 3) := by decide +kernel
theorem dX7_likely_17 : decode cX7_likely 17 = .ok (.iload_n 2, 1) := by decide +kernel
theorem dX7_likely_18 : decode cX7_likely 18 = .ok (.ifCond .lt 17, 3) := by decide +kernel
theorem dX7_likely_21 : decode cX7_likely 21 = .ok (.iload_n 2, 1) := by decide +kernel
theorem dX7_likely_22 : decode cX7_likely 22 = .ok (.iconst 2, 1) := by decide +kernel
theorem dX7_likely_23 : decode cX7_likely 23 = .ok (.if_icmp .gt 12, 3) := by decide +kernel
theorem dX7_likely_26 : decode cX7_likely 26 = .ok (.iload_n 3, 1) := by decide +kernel
theorem dX7_likely_27 : decode cX7_likely 27 = .ok (.ifCond .lt 8, 3) := by decide +kernel
theorem dX7_likely_30 : decode cX7_likely 30 = .ok (.iload_n 3, 1) := by decide +kernel
theorem dX7_likely_31 : decode cX7_likely 31 = .ok (.iconst 1, 1) := by decide +kernel
theorem dX7_likely_32 : decode cX7_likely 32 = .ok (.if_icmp .le 7, 3) := by decide +kernel
theorem dX7_likely_35 : decode cX7_likely 35 = .ok (.ldc2_w 155, 3) := by decide +kernel
theorem dX7_likely_38 : decode cX7_likely 38 = .ok (.lreturn, 1) := by decide +kernel
theorem dX7_likely_39 : decode cX7_likely 39 = .ok (.aload_n 0, 1) := by decide +kernel
theorem dX7_likely_40 : decode cX7_likely 40 = .ok (.iload_n 1, 1) := by decide +kernel
theorem dX7_likely_41 : decode cX7_likely 41 = .ok (.invokevirtual 157, 3) := by decide +kernel
theorem dX7_likely_44 : decode cX7_likely 44 = .ok (.lstore 4, 2) := by decide +kernel
theorem dX7_likely_46 : decode cX7_likely 46 = .ok (.lload 4, 2) := by decide +kernel
theorem dX7_likely_48 : decode cX7_likely 48 = .ok (.lconst 0, 1) := by decide +kernel
theorem dX7_likely_49 : decode cX7_likely 49 = .ok (.lcmp, 1) := by decide +kernel
theorem dX7_likely_50 : decode cX7_likely 50 = .ok (.ifCond .ne 7, 3) := by decide +kernel
theorem dX7_likely_53 : decode cX7_likely 53 = .ok (.ldc2_w 155, 3) := by decide +kernel
theorem dX7_likely_56 : decode cX7_likely 56 = .ok (.lreturn, 1) := by decide +kernel
theorem dX7_likely_57 : decode cX7_likely 57 = .ok (.aload_n 0, 1) := by decide +kernel
theorem dX7_likely_58 : decode cX7_likely 58 = .ok (.getfield 66, 3) := by decide +kernel
theorem dX7_likely_61 : decode cX7_likely 61 = .ok (.iload_n 2, 1) := by decide +kernel
theorem dX7_likely_62 : decode cX7_likely 62 = .ok (.laload, 1) := by decide +kernel
theorem dX7_likely_63 : decode cX7_likely 63 = .ok (.lload 4, 2) := by decide +kernel
theorem dX7_likely_65 : decode cX7_likely 65 = .ok (.invokestatic 161, 3) := by decide +kernel
theorem dX7_likely_68 : decode cX7_likely 68 = .ok (.lstore 6, 2) := by decide +kernel
theorem dX7_likely_70 : decode cX7_likely 70 = .ok (.iload_n 3, 1) := by decide +kernel
theorem dX7_likely_71 : decode cX7_likely 71 = .ok (.ifCond .ne 15, 3) := by decide +kernel
theorem dX7_likely_74 : decode cX7_likely 74 = .ok (.aload_n 0, 1) := by decide +kernel
theorem dX7_likely_75 : decode cX7_likely 75 = .ok (.getfield 66, 3) := by decide +kernel
theorem dX7_likely_78 : decode cX7_likely 78 = .ok (.iload_n 2, 1) := by decide +kernel
theorem dX7_likely_79 : decode cX7_likely 79 = .ok (.laload, 1) := by decide +kernel
theorem dX7_likely_80 : decode cX7_likely 80 = .ok (.lload 6, 2) := by decide +kernel
theorem dX7_likely_82 : decode cX7_likely 82 = .ok (.ldiv, 1) := by decide +kernel
theorem dX7_likely_83 : decode cX7_likely 83 = .ok (.goto 8, 3) := by decide +kernel
theorem dX7_likely_86 : decode cX7_likely 86 = .ok (.lload 4, 2) := by decide +kernel
theorem dX7_likely_88 : decode cX7_likely 88 = .ok (.lload 6, 2) := by decide +kernel
theorem dX7_likely_90 : decode cX7_likely 90 = .ok (.ldiv, 1) := by decide +kernel
theorem dX7_likely_91 : decode cX7_likely 91 = .ok (.lreturn, 1) := by decide +kernel
set_option maxRecDepth 20000 in
theorem ggX7_hopeOf_X7_weights : GoodIn wsX7_hopeOf wsX7_weights := goodIn_r _ [10, 4, 11, 12, 3, 13, 14, 15, 16, 17, 18, 19, 20, 21, 22, 23, 24, 25, 26, 27, 28, 29, 30, 31, 32, 33, 34, 35, 36, 37, 38, 39, 40, 41, 42, 43, 44, 45, 46, 47, 48, 49, 50, 51, 52, 53, 54, 55, 56, 57] (by decide +kernel) (by decide +kernel)
set_option maxRecDepth 20000 in
theorem gX7_hopeOf_X7_weights : GoodIn wsX7_hopeOf (wsV RX7 157 RX7 yX7_weights wsX7_weights) := goodIn_app (goodIn_of _ (by decide +kernel)) ggX7_hopeOf_X7_weights
theorem dX7_hopeOf_0 : decode cX7_hopeOf 0 = .ok (.aload_n 0, 1) := by decide +kernel
theorem dX7_hopeOf_1 : decode cX7_hopeOf 1 = .ok (.aload_n 0, 1) := by decide +kernel
theorem dX7_hopeOf_2 : decode cX7_hopeOf 2 = .ok (.getfield 39, 3) := by decide +kernel
theorem dX7_hopeOf_5 : decode cX7_hopeOf 5 = .ok (.iload_n 1, 1) := by decide +kernel
theorem dX7_hopeOf_6 : decode cX7_hopeOf 6 = .ok (.iaload, 1) := by decide +kernel
theorem dX7_hopeOf_7 : decode cX7_hopeOf 7 = .ok (.invokevirtual 157, 3) := by decide +kernel
theorem dX7_hopeOf_10 : decode cX7_hopeOf 10 = .ok (.lstore_n 3, 1) := by decide +kernel
theorem dX7_hopeOf_11 : decode cX7_hopeOf 11 = .ok (.lload_n 3, 1) := by decide +kernel
theorem dX7_hopeOf_12 : decode cX7_hopeOf 12 = .ok (.lconst 0, 1) := by decide +kernel
theorem dX7_hopeOf_13 : decode cX7_hopeOf 13 = .ok (.lcmp, 1) := by decide +kernel
theorem dX7_hopeOf_14 : decode cX7_hopeOf 14 = .ok (.ifCond .eq 7, 3) := by decide +kernel
theorem dX7_hopeOf_17 : decode cX7_hopeOf 17 = .ok (.iload_n 2, 1) := by decide +kernel
theorem dX7_hopeOf_18 : decode cX7_hopeOf 18 = .ok (.ifCond .ne 5, 3) := by decide +kernel
theorem dX7_hopeOf_21 : decode cX7_hopeOf 21 = .ok (.iconst 0, 1) := by decide +kernel
theorem dX7_hopeOf_22 : decode cX7_hopeOf 22 = .ok (.ireturn, 1) := by decide +kernel
theorem dX7_hopeOf_23 : decode cX7_hopeOf 23 = .ok (.lconst 0, 1) := by decide +kernel
theorem dX7_hopeOf_24 : decode cX7_hopeOf 24 = .ok (.lstore 5, 2) := by decide +kernel
theorem dX7_hopeOf_26 : decode cX7_hopeOf 26 = .ok (.lconst 1, 1) := by decide +kernel
theorem dX7_hopeOf_27 : decode cX7_hopeOf 27 = .ok (.lstore 7, 2) := by decide +kernel
theorem dX7_hopeOf_29 : decode cX7_hopeOf 29 = .ok (.iconst 0, 1) := by decide +kernel
theorem dX7_hopeOf_30 : decode cX7_hopeOf 30 = .ok (.istore 9, 2) := by decide +kernel
theorem dX7_hopeOf_32 : decode cX7_hopeOf 32 = .ok (.iload 9, 2) := by decide +kernel
theorem dX7_hopeOf_34 : decode cX7_hopeOf 34 = .ok (.iload_n 2, 1) := by decide +kernel
theorem dX7_hopeOf_35 : decode cX7_hopeOf 35 = .ok (.if_icmp .ge 17, 3) := by decide +kernel
theorem dX7_hopeOf_38 : decode cX7_hopeOf 38 = .ok (.lload 7, 2) := by decide +kernel
theorem dX7_hopeOf_40 : decode cX7_hopeOf 40 = .ok (.ldc2_w 165, 3) := by decide +kernel
theorem dX7_hopeOf_43 : decode cX7_hopeOf 43 = .ok (.lmul, 1) := by decide +kernel
theorem dX7_hopeOf_44 : decode cX7_hopeOf 44 = .ok (.lstore 7, 2) := by decide +kernel
theorem dX7_hopeOf_46 : decode cX7_hopeOf 46 = .ok (.iinc 9 1, 3) := by decide +kernel
theorem dX7_hopeOf_49 : decode cX7_hopeOf 49 = .ok (.goto (-17), 3) := by decide +kernel
theorem dX7_hopeOf_52 : decode cX7_hopeOf 52 = .ok (.iconst 0, 1) := by decide +kernel
theorem dX7_hopeOf_53 : decode cX7_hopeOf 53 = .ok (.istore 9, 2) := by decide +kernel
theorem dX7_hopeOf_55 : decode cX7_hopeOf 55 = .ok (.iload 9, 2) := by decide +kernel
theorem dX7_hopeOf_57 : decode cX7_hopeOf 57 = .ok (.iconst 3, 1) := by decide +kernel
theorem dX7_hopeOf_58 : decode cX7_hopeOf 58 = .ok (.if_icmp .ge 66, 3) := by decide +kernel
theorem dX7_hopeOf_61 : decode cX7_hopeOf 61 = .ok (.lconst 1, 1) := by decide +kernel
theorem dX7_hopeOf_62 : decode cX7_hopeOf 62 = .ok (.lstore 10, 2) := by decide +kernel
theorem dX7_hopeOf_64 : decode cX7_hopeOf 64 = .ok (.iconst 1, 1) := by decide +kernel
theorem dX7_hopeOf_65 : decode cX7_hopeOf 65 = .ok (.istore 12, 2) := by decide +kernel
theorem dX7_hopeOf_67 : decode cX7_hopeOf 67 = .ok (.iload 12, 2) := by decide +kernel
theorem dX7_hopeOf_69 : decode cX7_hopeOf 69 = .ok (.iload_n 2, 1) := by decide +kernel
theorem dX7_hopeOf_70 : decode cX7_hopeOf 70 = .ok (.if_icmp .gt 30, 3) := by decide +kernel
theorem dX7_hopeOf_73 : decode cX7_hopeOf 73 = .ok (.lload 10, 2) := by decide +kernel
theorem dX7_hopeOf_75 : decode cX7_hopeOf 75 = .ok (.bipush 16, 2) := by decide +kernel
theorem dX7_hopeOf_77 : decode cX7_hopeOf 77 = .ok (.aload_n 0, 1) := by decide +kernel
theorem dX7_hopeOf_78 : decode cX7_hopeOf 78 = .ok (.getfield 36, 3) := by decide +kernel
theorem dX7_hopeOf_81 : decode cX7_hopeOf 81 = .ok (.iconst 5, 1) := by decide +kernel
theorem dX7_hopeOf_82 : decode cX7_hopeOf 82 = .ok (.iload 9, 2) := by decide +kernel
theorem dX7_hopeOf_84 : decode cX7_hopeOf 84 = .ok (.imul, 1) := by decide +kernel
theorem dX7_hopeOf_85 : decode cX7_hopeOf 85 = .ok (.iload 12, 2) := by decide +kernel
theorem dX7_hopeOf_87 : decode cX7_hopeOf 87 = .ok (.iadd, 1) := by decide +kernel
theorem dX7_hopeOf_88 : decode cX7_hopeOf 88 = .ok (.iaload, 1) := by decide +kernel
theorem dX7_hopeOf_89 : decode cX7_hopeOf 89 = .ok (.isub, 1) := by decide +kernel
theorem dX7_hopeOf_90 : decode cX7_hopeOf 90 = .ok (.i2l, 1) := by decide +kernel
theorem dX7_hopeOf_91 : decode cX7_hopeOf 91 = .ok (.lmul, 1) := by decide +kernel
theorem dX7_hopeOf_92 : decode cX7_hopeOf 92 = .ok (.lstore 10, 2) := by decide +kernel
theorem dX7_hopeOf_94 : decode cX7_hopeOf 94 = .ok (.iinc 12 1, 3) := by decide +kernel
theorem dX7_hopeOf_97 : decode cX7_hopeOf 97 = .ok (.goto (-30), 3) := by decide +kernel
theorem dX7_hopeOf_100 : decode cX7_hopeOf 100 = .ok (.lload 5, 2) := by decide +kernel
theorem dX7_hopeOf_102 : decode cX7_hopeOf 102 = .ok (.aload_n 0, 1) := by decide +kernel
theorem dX7_hopeOf_103 : decode cX7_hopeOf 103 = .ok (.getfield 66, 3) := by decide +kernel
theorem dX7_hopeOf_106 : decode cX7_hopeOf 106 = .ok (.iload 9, 2) := by decide +kernel
theorem dX7_hopeOf_108 : decode cX7_hopeOf 108 = .ok (.laload, 1) := by decide +kernel
theorem dX7_hopeOf_109 : decode cX7_hopeOf 109 = .ok (.lload 7, 2) := by decide +kernel
theorem dX7_hopeOf_111 : decode cX7_hopeOf 111 = .ok (.lload 10, 2) := by decide +kernel
theorem dX7_hopeOf_113 : decode cX7_hopeOf 113 = .ok (.lsub, 1) := by decide +kernel
theorem dX7_hopeOf_114 : decode cX7_hopeOf 114 = .ok (.lmul, 1) := by decide +kernel
theorem dX7_hopeOf_115 : decode cX7_hopeOf 115 = .ok (.ladd, 1) := by decide +kernel
theorem dX7_hopeOf_116 : decode cX7_hopeOf 116 = .ok (.lstore 5, 2) := by decide +kernel
theorem dX7_hopeOf_118 : decode cX7_hopeOf 118 = .ok (.iinc 9 1, 3) := by decide +kernel
theorem dX7_hopeOf_121 : decode cX7_hopeOf 121 = .ok (.goto (-66), 3) := by decide +kernel
theorem dX7_hopeOf_124 : decode cX7_hopeOf 124 = .ok (.lload_n 3, 1) := by decide +kernel
theorem dX7_hopeOf_125 : decode cX7_hopeOf 125 = .ok (.lload 7, 2) := by decide +kernel
theorem dX7_hopeOf_127 : decode cX7_hopeOf 127 = .ok (.lmul, 1) := by decide +kernel
theorem dX7_hopeOf_128 : decode cX7_hopeOf 128 = .ok (.lstore 9, 2) := by decide +kernel
theorem dX7_hopeOf_130 : decode cX7_hopeOf 130 = .ok (.lload 5, 2) := by decide +kernel
theorem dX7_hopeOf_132 : decode cX7_hopeOf 132 = .ok (.lstore 11, 2) := by decide +kernel
theorem dX7_hopeOf_134 : decode cX7_hopeOf 134 = .ok (.iconst 0, 1) := by decide +kernel
theorem dX7_hopeOf_135 : decode cX7_hopeOf 135 = .ok (.istore 13, 2) := by decide +kernel
theorem dX7_hopeOf_137 : decode cX7_hopeOf 137 = .ok (.iconst 0, 1) := by decide +kernel
theorem dX7_hopeOf_138 : decode cX7_hopeOf 138 = .ok (.istore 14, 2) := by decide +kernel
theorem dX7_hopeOf_140 : decode cX7_hopeOf 140 = .ok (.iload 14, 2) := by decide +kernel
theorem dX7_hopeOf_142 : decode cX7_hopeOf 142 = .ok (.bipush 20, 2) := by decide +kernel
theorem dX7_hopeOf_144 : decode cX7_hopeOf 144 = .ok (.if_icmp .ge 41, 3) := by decide +kernel
theorem dX7_hopeOf_147 : decode cX7_hopeOf 147 = .ok (.lload 11, 2) := by decide +kernel
theorem dX7_hopeOf_149 : decode cX7_hopeOf 149 = .ok (.ldc2_w 167, 3) := by decide +kernel
theorem dX7_hopeOf_152 : decode cX7_hopeOf 152 = .ok (.lmul, 1) := by decide +kernel
theorem dX7_hopeOf_153 : decode cX7_hopeOf 153 = .ok (.lstore 11, 2) := by decide +kernel
theorem dX7_hopeOf_155 : decode cX7_hopeOf 155 = .ok (.iload 13, 2) := by decide +kernel
theorem dX7_hopeOf_157 : decode cX7_hopeOf 157 = .ok (.iconst 2, 1) := by decide +kernel
theorem dX7_hopeOf_158 : decode cX7_hopeOf 158 = .ok (.imul, 1) := by decide +kernel
theorem dX7_hopeOf_159 : decode cX7_hopeOf 159 = .ok (.istore 13, 2) := by decide +kernel
theorem dX7_hopeOf_161 : decode cX7_hopeOf 161 = .ok (.lload 11, 2) := by decide +kernel
theorem dX7_hopeOf_163 : decode cX7_hopeOf 163 = .ok (.lload 9, 2) := by decide +kernel
theorem dX7_hopeOf_165 : decode cX7_hopeOf 165 = .ok (.lcmp, 1) := by decide +kernel
theorem dX7_hopeOf_166 : decode cX7_hopeOf 166 = .ok (.ifCond .lt 13, 3) := by decide +kernel
theorem dX7_hopeOf_169 : decode cX7_hopeOf 169 = .ok (.lload 11, 2) := by decide +kernel
theorem dX7_hopeOf_171 : decode cX7_hopeOf 171 = .ok (.lload 9, 2) := by decide +kernel
theorem dX7_hopeOf_173 : decode cX7_hopeOf 173 = .ok (.lsub, 1) := by decide +kernel
theorem dX7_hopeOf_174 : decode cX7_hopeOf 174 = .ok (.lstore 11, 2) := by decide +kernel
theorem dX7_hopeOf_176 : decode cX7_hopeOf 176 = .ok (.iinc 13 1, 3) := by decide +kernel
theorem dX7_hopeOf_179 : decode cX7_hopeOf 179 = .ok (.iinc 14 1, 3) := by decide +kernel
theorem dX7_hopeOf_182 : decode cX7_hopeOf 182 = .ok (.goto (-42), 3) := by decide +kernel
theorem dX7_hopeOf_185 : decode cX7_hopeOf 185 = .ok (.iload 13, 2) := by decide +kernel
theorem dX7_hopeOf_187 : decode cX7_hopeOf 187 = .ok (.ireturn, 1) := by decide +kernel
set_option maxRecDepth 20000 in
theorem ggX7_hope_X7_isVillage : GoodIn wsX7_hope wsX7_isVillage := goodIn_r _ [6, 7, 25, 26, 27, 28, 29, 30, 31, 32, 33, 34, 35, 36, 37, 38, 39, 40, 41, 42, 43, 44, 45, 46, 47, 48, 49, 50, 51, 52, 53, 54, 55, 56, 57, 58, 59, 60, 61, 62, 63, 64, 65, 66, 67] (by decide +kernel) (by decide +kernel)
set_option maxRecDepth 20000 in
theorem gX7_hope_X7_isVillage : GoodIn wsX7_hope (wsV RX7 169 RX7 yX7_isVillage wsX7_isVillage) := goodIn_app (goodIn_of _ (by decide +kernel)) ggX7_hope_X7_isVillage
set_option maxRecDepth 20000 in
theorem ggX7_hope_X7_hopeOf : GoodIn wsX7_hope wsX7_hopeOf := goodIn_r _ [11, 12, 13, 14, 15, 16, 17, 18, 19, 5, 20, 21, 22, 23, 24, 25, 26, 27, 28, 29, 30, 31, 32, 33, 34, 35, 36, 37, 38, 39, 40, 41, 42, 43, 44, 45, 46, 47, 48, 49, 50, 51, 52, 53, 54, 55, 56, 57, 58, 59, 60, 61, 62, 63, 64, 65, 66, 67] (by decide +kernel) (by decide +kernel)
set_option maxRecDepth 20000 in
theorem gX7_hope_X7_hopeOf : GoodIn wsX7_hope (wsV RX7 172 RX7 yX7_hopeOf wsX7_hopeOf) := goodIn_app (goodIn_of _ (by decide +kernel)) ggX7_hope_X7_hopeOf
theorem dX7_hope_0 : decode cX7_hope 0 = .ok (.aload_n 0, 1) := by decide +kernel
theorem dX7_hope_1 : decode cX7_hope 1 = .ok (.iconst 0, 1) := by decide +kernel
theorem dX7_hope_2 : decode cX7_hope 2 = .ok (.putfield 88, 3) := by decide +kernel
theorem dX7_hope_5 : decode cX7_hope 5 = .ok (.aload_n 0, 1) := by decide +kernel
theorem dX7_hope_6 : decode cX7_hope 6 = .ok (.iload_n 1, 1) := by decide +kernel
theorem dX7_hope_7 : decode cX7_hope 7 = .ok (.invokevirtual 169, 3) := by decide +kernel
theorem dX7_hope_10 : decode cX7_hope 10 = .ok (.ifCond .eq 13, 3) := by decide +kernel
theorem dX7_hope_13 : decode cX7_hope 13 = .ok (.iload_n 2, 1) := by decide +kernel
theorem dX7_hope_14 : decode cX7_hope 14 = .ok (.iconst 1, 1) := by decide +kernel
theorem dX7_hope_15 : decode cX7_hope 15 = .ok (.if_icmp .lt 8, 3) := by decide +kernel
theorem dX7_hope_18 : decode cX7_hope 18 = .ok (.iload_n 2, 1) := by decide +kernel
theorem dX7_hope_19 : decode cX7_hope 19 = .ok (.iconst 4, 1) := by decide +kernel
theorem dX7_hope_20 : decode cX7_hope 20 = .ok (.if_icmp .le 7, 3) := by decide +kernel
theorem dX7_hope_23 : decode cX7_hope 23 = .ok (.iconst (-1), 1) := by decide +kernel
theorem dX7_hope_24 : decode cX7_hope 24 = .ok (.goto 9, 3) := by decide +kernel
theorem dX7_hope_27 : decode cX7_hope 27 = .ok (.aload_n 0, 1) := by decide +kernel
theorem dX7_hope_28 : decode cX7_hope 28 = .ok (.iload_n 1, 1) := by decide +kernel
theorem dX7_hope_29 : decode cX7_hope 29 = .ok (.iload_n 2, 1) := by decide +kernel
theorem dX7_hope_30 : decode cX7_hope 30 = .ok (.invokevirtual 172, 3) := by decide +kernel
theorem dX7_hope_33 : decode cX7_hope 33 = .ok (.ireturn, 1) := by decide +kernel
theorem dX7_far_0 : decode cX7_far 0 = .ok (.iload_n 0, 1) := by decide +kernel
theorem dX7_far_1 : decode cX7_far 1 = .ok (.ifCond .lt 10, 3) := by decide +kernel
theorem dX7_far_4 : decode cX7_far 4 = .ok (.iload_n 1, 1) := by decide +kernel
theorem dX7_far_5 : decode cX7_far 5 = .ok (.sipush 9999, 3) := by decide +kernel
theorem dX7_far_8 : decode cX7_far 8 = .ok (.if_icmp .lt 9, 3) := by decide +kernel
theorem dX7_far_11 : decode cX7_far 11 = .ok (.sipush 9999, 3) := by decide +kernel
theorem dX7_far_14 : decode cX7_far 14 = .ok (.goto 6, 3) := by decide +kernel
theorem dX7_far_17 : decode cX7_far 17 = .ok (.iload_n 0, 1) := by decide +kernel
theorem dX7_far_18 : decode cX7_far 18 = .ok (.iload_n 1, 1) := by decide +kernel
theorem dX7_far_19 : decode cX7_far 19 = .ok (.iadd, 1) := by decide +kernel
theorem dX7_far_20 : decode cX7_far 20 = .ok (.ireturn, 1) := by decide +kernel
set_option maxRecDepth 20000 in
theorem ggX7_ways_X7_far : GoodIn wsX7_ways wsX7_far := goodIn_r _ [6] (by decide +kernel) (by decide +kernel)
set_option maxRecDepth 20000 in
theorem gX7_ways_X7_far : GoodIn wsX7_ways (va_wsS RX7 175 yX7_far wsX7_far) := goodIn_app (goodIn_of _ (by decide +kernel)) ggX7_ways_X7_far
theorem dX7_ways_0 : decode cX7_ways 0 = .ok (.iconst 0, 1) := by decide +kernel
theorem dX7_ways_1 : decode cX7_ways 1 = .ok (.istore_n 1, 1) := by decide +kernel
theorem dX7_ways_2 : decode cX7_ways 2 = .ok (.iload_n 1, 1) := by decide +kernel
theorem dX7_ways_3 : decode cX7_ways 3 = .ok (.sipush 128, 3) := by decide +kernel
theorem dX7_ways_6 : decode cX7_ways 6 = .ok (.if_icmp .ge 128, 3) := by decide +kernel
theorem dX7_ways_9 : decode cX7_ways 9 = .ok (.iconst 0, 1) := by decide +kernel
theorem dX7_ways_10 : decode cX7_ways 10 = .ok (.istore_n 2, 1) := by decide +kernel
theorem dX7_ways_11 : decode cX7_ways 11 = .ok (.iload_n 2, 1) := by decide +kernel
theorem dX7_ways_12 : decode cX7_ways 12 = .ok (.bipush 8, 2) := by decide +kernel
theorem dX7_ways_14 : decode cX7_ways 14 = .ok (.if_icmp .ge 114, 3) := by decide +kernel
theorem dX7_ways_17 : decode cX7_ways 17 = .ok (.iload_n 1, 1) := by decide +kernel
theorem dX7_ways_18 : decode cX7_ways 18 = .ok (.ifCond .ne 7, 3) := by decide +kernel
theorem dX7_ways_21 : decode cX7_ways 21 = .ok (.iconst 0, 1) := by decide +kernel
theorem dX7_ways_22 : decode cX7_ways 22 = .ok (.goto 6, 3) := by decide +kernel
theorem dX7_ways_25 : decode cX7_ways 25 = .ok (.sipush 9999, 3) := by decide +kernel
theorem dX7_ways_28 : decode cX7_ways 28 = .ok (.istore_n 3, 1) := by decide +kernel
theorem dX7_ways_29 : decode cX7_ways 29 = .ok (.iconst 1, 1) := by decide +kernel
theorem dX7_ways_30 : decode cX7_ways 30 = .ok (.istore 4, 2) := by decide +kernel
theorem dX7_ways_32 : decode cX7_ways 32 = .ok (.iload 4, 2) := by decide +kernel
theorem dX7_ways_34 : decode cX7_ways 34 = .ok (.bipush 7, 2) := by decide +kernel
theorem dX7_ways_36 : decode cX7_ways 36 = .ok (.if_icmp .gt 74, 3) := by decide +kernel
theorem dX7_ways_39 : decode cX7_ways 39 = .ok (.iload_n 1, 1) := by decide +kernel
theorem dX7_ways_40 : decode cX7_ways 40 = .ok (.iload 4, 2) := by decide +kernel
theorem dX7_ways_42 : decode cX7_ways 42 = .ok (.iconst 1, 1) := by decide +kernel
theorem dX7_ways_43 : decode cX7_ways 43 = .ok (.isub, 1) := by decide +kernel
theorem dX7_ways_44 : decode cX7_ways 44 = .ok (.ishr, 1) := by decide +kernel
theorem dX7_ways_45 : decode cX7_ways 45 = .ok (.iconst 1, 1) := by decide +kernel
theorem dX7_ways_46 : decode cX7_ways 46 = .ok (.iand, 1) := by decide +kernel
theorem dX7_ways_47 : decode cX7_ways 47 = .ok (.ifCond .ne 6, 3) := by decide +kernel
theorem dX7_ways_50 : decode cX7_ways 50 = .ok (.goto 54, 3) := by decide +kernel
theorem dX7_ways_53 : decode cX7_ways 53 = .ok (.aload_n 0, 1) := by decide +kernel
theorem dX7_ways_54 : decode cX7_ways 54 = .ok (.getfield 57, 3) := by decide +kernel
theorem dX7_ways_57 : decode cX7_ways 57 = .ok (.bipush 8, 2) := by decide +kernel
theorem dX7_ways_59 : decode cX7_ways 59 = .ok (.iload_n 2, 1) := by decide +kernel
theorem dX7_ways_60 : decode cX7_ways 60 = .ok (.imul, 1) := by decide +kernel
theorem dX7_ways_61 : decode cX7_ways 61 = .ok (.iload 4, 2) := by decide +kernel
theorem dX7_ways_63 : decode cX7_ways 63 = .ok (.iadd, 1) := by decide +kernel
theorem dX7_ways_64 : decode cX7_ways 64 = .ok (.iaload, 1) := by decide +kernel
theorem dX7_ways_65 : decode cX7_ways 65 = .ok (.aload_n 0, 1) := by decide +kernel
theorem dX7_ways_66 : decode cX7_ways 66 = .ok (.getfield 70, 3) := by decide +kernel
theorem dX7_ways_69 : decode cX7_ways 69 = .ok (.bipush 8, 2) := by decide +kernel
theorem dX7_ways_71 : decode cX7_ways 71 = .ok (.iload_n 1, 1) := by decide +kernel
theorem dX7_ways_72 : decode cX7_ways 72 = .ok (.iconst 1, 1) := by decide +kernel
theorem dX7_ways_73 : decode cX7_ways 73 = .ok (.iload 4, 2) := by decide +kernel
theorem dX7_ways_75 : decode cX7_ways 75 = .ok (.iconst 1, 1) := by decide +kernel
theorem dX7_ways_76 : decode cX7_ways 76 = .ok (.isub, 1) := by decide +kernel
theorem dX7_ways_77 : decode cX7_ways 77 = .ok (.ishl, 1) := by decide +kernel
theorem dX7_ways_78 : decode cX7_ways 78 = .ok (.iconst (-1), 1) := by decide +kernel
theorem dX7_ways_79 : decode cX7_ways 79 = .ok (.ixor, 1) := by decide +kernel
theorem dX7_ways_80 : decode cX7_ways 80 = .ok (.iand, 1) := by decide +kernel
theorem dX7_ways_81 : decode cX7_ways 81 = .ok (.imul, 1) := by decide +kernel
theorem dX7_ways_82 : decode cX7_ways 82 = .ok (.iload 4, 2) := by decide +kernel
theorem dX7_ways_84 : decode cX7_ways 84 = .ok (.iadd, 1) := by decide +kernel
theorem dX7_ways_85 : decode cX7_ways 85 = .ok (.iaload, 1) := by decide +kernel
theorem dX7_ways_86 : decode cX7_ways 86 = .ok (.invokestatic 175, 3) := by decide +kernel
theorem dX7_ways_89 : decode cX7_ways 89 = .ok (.istore 5, 2) := by decide +kernel
theorem dX7_ways_91 : decode cX7_ways 91 = .ok (.iload 5, 2) := by decide +kernel
theorem dX7_ways_93 : decode cX7_ways 93 = .ok (.iload_n 3, 1) := by decide +kernel
theorem dX7_ways_94 : decode cX7_ways 94 = .ok (.if_icmp .ge 8, 3) := by decide +kernel
theorem dX7_ways_97 : decode cX7_ways 97 = .ok (.iload 5, 2) := by decide +kernel
theorem dX7_ways_99 : decode cX7_ways 99 = .ok (.goto 4, 3) := by decide +kernel
theorem dX7_ways_102 : decode cX7_ways 102 = .ok (.iload_n 3, 1) := by decide +kernel
theorem dX7_ways_103 : decode cX7_ways 103 = .ok (.istore_n 3, 1) := by decide +kernel
theorem dX7_ways_104 : decode cX7_ways 104 = .ok (.iinc 4 1, 3) := by decide +kernel
theorem dX7_ways_107 : decode cX7_ways 107 = .ok (.goto (-75), 3) := by decide +kernel
theorem dX7_ways_110 : decode cX7_ways 110 = .ok (.aload_n 0, 1) := by decide +kernel
theorem dX7_ways_111 : decode cX7_ways 111 = .ok (.getfield 70, 3) := by decide +kernel
theorem dX7_ways_114 : decode cX7_ways 114 = .ok (.bipush 8, 2) := by decide +kernel
theorem dX7_ways_116 : decode cX7_ways 116 = .ok (.iload_n 1, 1) := by decide +kernel
theorem dX7_ways_117 : decode cX7_ways 117 = .ok (.imul, 1) := by decide +kernel
theorem dX7_ways_118 : decode cX7_ways 118 = .ok (.iload_n 2, 1) := by decide +kernel
theorem dX7_ways_119 : decode cX7_ways 119 = .ok (.iadd, 1) := by decide +kernel
theorem dX7_ways_120 : decode cX7_ways 120 = .ok (.iload_n 3, 1) := by decide +kernel
theorem dX7_ways_121 : decode cX7_ways 121 = .ok (.iastore, 1) := by decide +kernel
theorem dX7_ways_122 : decode cX7_ways 122 = .ok (.iinc 2 1, 3) := by decide +kernel
theorem dX7_ways_125 : decode cX7_ways 125 = .ok (.goto (-114), 3) := by decide +kernel
theorem dX7_ways_128 : decode cX7_ways 128 = .ok (.iinc 1 1, 3) := by decide +kernel
theorem dX7_ways_131 : decode cX7_ways 131 = .ok (.goto (-129), 3) := by decide +kernel
theorem dX7_ways_134 : decode cX7_ways 134 = .ok (.return_, 1) := by decide +kernel
set_option maxRecDepth 20000 in
theorem ggX7_from_X7_far : GoodIn wsX7_from wsX7_far := goodIn_r _ [7] (by decide +kernel) (by decide +kernel)
set_option maxRecDepth 20000 in
theorem gX7_from_X7_far : GoodIn wsX7_from (va_wsS RX7 175 yX7_far wsX7_far) := goodIn_app (goodIn_of _ (by decide +kernel)) ggX7_from_X7_far
theorem dX7_from_0 : decode cX7_from 0 = .ok (.iload_n 1, 1) := by decide +kernel
theorem dX7_from_1 : decode cX7_from 1 = .ok (.aload_n 0, 1) := by decide +kernel
theorem dX7_from_2 : decode cX7_from 2 = .ok (.getfield 146, 3) := by decide +kernel
theorem dX7_from_5 : decode cX7_from 5 = .ok (.if_icmp .ne 7, 3) := by decide +kernel
theorem dX7_from_8 : decode cX7_from 8 = .ok (.iconst 0, 1) := by decide +kernel
theorem dX7_from_9 : decode cX7_from 9 = .ok (.goto 17, 3) := by decide +kernel
theorem dX7_from_12 : decode cX7_from 12 = .ok (.aload_n 0, 1) := by decide +kernel
theorem dX7_from_13 : decode cX7_from 13 = .ok (.getfield 57, 3) := by decide +kernel
theorem dX7_from_16 : decode cX7_from 16 = .ok (.bipush 8, 2) := by decide +kernel
theorem dX7_from_18 : decode cX7_from 18 = .ok (.aload_n 0, 1) := by decide +kernel
theorem dX7_from_19 : decode cX7_from 19 = .ok (.getfield 146, 3) := by decide +kernel
theorem dX7_from_22 : decode cX7_from 22 = .ok (.imul, 1) := by decide +kernel
theorem dX7_from_23 : decode cX7_from 23 = .ok (.iload_n 1, 1) := by decide +kernel
theorem dX7_from_24 : decode cX7_from 24 = .ok (.iadd, 1) := by decide +kernel
theorem dX7_from_25 : decode cX7_from 25 = .ok (.iaload, 1) := by decide +kernel
theorem dX7_from_26 : decode cX7_from 26 = .ok (.aload_n 0, 1) := by decide +kernel
theorem dX7_from_27 : decode cX7_from 27 = .ok (.getfield 70, 3) := by decide +kernel
theorem dX7_from_30 : decode cX7_from 30 = .ok (.bipush 8, 2) := by decide +kernel
theorem dX7_from_32 : decode cX7_from 32 = .ok (.iload_n 2, 1) := by decide +kernel
theorem dX7_from_33 : decode cX7_from 33 = .ok (.iconst 1, 1) := by decide +kernel
theorem dX7_from_34 : decode cX7_from 34 = .ok (.iload_n 1, 1) := by decide +kernel
theorem dX7_from_35 : decode cX7_from 35 = .ok (.iconst 1, 1) := by decide +kernel
theorem dX7_from_36 : decode cX7_from 36 = .ok (.isub, 1) := by decide +kernel
theorem dX7_from_37 : decode cX7_from 37 = .ok (.ishl, 1) := by decide +kernel
theorem dX7_from_38 : decode cX7_from 38 = .ok (.iconst (-1), 1) := by decide +kernel
theorem dX7_from_39 : decode cX7_from 39 = .ok (.ixor, 1) := by decide +kernel
theorem dX7_from_40 : decode cX7_from 40 = .ok (.iand, 1) := by decide +kernel
theorem dX7_from_41 : decode cX7_from 41 = .ok (.imul, 1) := by decide +kernel
theorem dX7_from_42 : decode cX7_from 42 = .ok (.iload_n 1, 1) := by decide +kernel
theorem dX7_from_43 : decode cX7_from 43 = .ok (.iadd, 1) := by decide +kernel
theorem dX7_from_44 : decode cX7_from 44 = .ok (.iaload, 1) := by decide +kernel
theorem dX7_from_45 : decode cX7_from 45 = .ok (.invokestatic 175, 3) := by decide +kernel
theorem dX7_from_48 : decode cX7_from 48 = .ok (.ireturn, 1) := by decide +kernel
set_option maxRecDepth 20000 in
theorem ggX7_through_X7_from : GoodIn wsX7_through wsX7_from := goodIn_r _ [6, 7, 8, 9, 10, 11, 5, 12, 13, 14, 15, 16, 17, 18, 19, 20, 21, 22, 23, 24, 25, 26, 27, 28, 29, 30, 31, 32, 33, 34, 35, 36, 37, 38, 39, 40, 41, 42, 43, 44, 45, 46, 47, 48, 49, 50, 51, 52, 53, 54, 55] (by decide +kernel) (by decide +kernel)
set_option maxRecDepth 20000 in
theorem gX7_through_X7_from : GoodIn wsX7_through (wsV RX7 178 RX7 yX7_from wsX7_from) := goodIn_app (goodIn_of _ (by decide +kernel)) ggX7_through_X7_from
theorem dX7_through_0 : decode cX7_through 0 = .ok (.iload_n 1, 1) := by decide +kernel
theorem dX7_through_1 : decode cX7_through 1 = .ok (.ifCond .ne 7, 3) := by decide +kernel
theorem dX7_through_4 : decode cX7_through 4 = .ok (.iconst 0, 1) := by decide +kernel
theorem dX7_through_5 : decode cX7_through 5 = .ok (.goto 6, 3) := by decide +kernel
theorem dX7_through_8 : decode cX7_through 8 = .ok (.sipush 9999, 3) := by decide +kernel
theorem dX7_through_11 : decode cX7_through 11 = .ok (.istore_n 2, 1) := by decide +kernel
theorem dX7_through_12 : decode cX7_through 12 = .ok (.iconst 1, 1) := by decide +kernel
theorem dX7_through_13 : decode cX7_through 13 = .ok (.istore_n 3, 1) := by decide +kernel
theorem dX7_through_14 : decode cX7_through 14 = .ok (.iload_n 3, 1) := by decide +kernel
theorem dX7_through_15 : decode cX7_through 15 = .ok (.aload_n 0, 1) := by decide +kernel
theorem dX7_through_16 : decode cX7_through 16 = .ok (.getfield 143, 3) := by decide +kernel
theorem dX7_through_19 : decode cX7_through 19 = .ok (.if_icmp .gt 37, 3) := by decide +kernel
theorem dX7_through_22 : decode cX7_through 22 = .ok (.iload_n 1, 1) := by decide +kernel
theorem dX7_through_23 : decode cX7_through 23 = .ok (.iload_n 3, 1) := by decide +kernel
theorem dX7_through_24 : decode cX7_through 24 = .ok (.iconst 1, 1) := by decide +kernel
theorem dX7_through_25 : decode cX7_through 25 = .ok (.isub, 1) := by decide +kernel
theorem dX7_through_26 : decode cX7_through 26 = .ok (.ishr, 1) := by decide +kernel
theorem dX7_through_27 : decode cX7_through 27 = .ok (.iconst 1, 1) := by decide +kernel
theorem dX7_through_28 : decode cX7_through 28 = .ok (.iand, 1) := by decide +kernel
theorem dX7_through_29 : decode cX7_through 29 = .ok (.iconst 1, 1) := by decide +kernel
theorem dX7_through_30 : decode cX7_through 30 = .ok (.if_icmp .ne 20, 3) := by decide +kernel
theorem dX7_through_33 : decode cX7_through 33 = .ok (.aload_n 0, 1) := by decide +kernel
theorem dX7_through_34 : decode cX7_through 34 = .ok (.iload_n 3, 1) := by decide +kernel
theorem dX7_through_35 : decode cX7_through 35 = .ok (.iload_n 1, 1) := by decide +kernel
theorem dX7_through_36 : decode cX7_through 36 = .ok (.invokevirtual 178, 3) := by decide +kernel
theorem dX7_through_39 : decode cX7_through 39 = .ok (.iload_n 2, 1) := by decide +kernel
theorem dX7_through_40 : decode cX7_through 40 = .ok (.if_icmp .ge 10, 3) := by decide +kernel
theorem dX7_through_43 : decode cX7_through 43 = .ok (.aload_n 0, 1) := by decide +kernel
theorem dX7_through_44 : decode cX7_through 44 = .ok (.iload_n 3, 1) := by decide +kernel
theorem dX7_through_45 : decode cX7_through 45 = .ok (.iload_n 1, 1) := by decide +kernel
theorem dX7_through_46 : decode cX7_through 46 = .ok (.invokevirtual 178, 3) := by decide +kernel
theorem dX7_through_49 : decode cX7_through 49 = .ok (.istore_n 2, 1) := by decide +kernel
theorem dX7_through_50 : decode cX7_through 50 = .ok (.iinc 3 1, 3) := by decide +kernel
theorem dX7_through_53 : decode cX7_through 53 = .ok (.goto (-39), 3) := by decide +kernel
theorem dX7_through_56 : decode cX7_through 56 = .ok (.iload_n 2, 1) := by decide +kernel
theorem dX7_through_57 : decode cX7_through 57 = .ok (.ireturn, 1) := by decide +kernel
theorem dX7_isWanted_0 : decode cX7_isWanted 0 = .ok (.aload_n 0, 1) := by decide +kernel
theorem dX7_isWanted_1 : decode cX7_isWanted 1 = .ok (.getfield 48, 3) := by decide +kernel
theorem dX7_isWanted_4 : decode cX7_isWanted 4 = .ok (.iload_n 1, 1) := by decide +kernel
theorem dX7_isWanted_5 : decode cX7_isWanted 5 = .ok (.iaload, 1) := by decide +kernel
theorem dX7_isWanted_6 : decode cX7_isWanted 6 = .ok (.ifCond .ne 20, 3) := by decide +kernel
theorem dX7_isWanted_9 : decode cX7_isWanted 9 = .ok (.aload_n 0, 1) := by decide +kernel
theorem dX7_isWanted_10 : decode cX7_isWanted 10 = .ok (.getfield 45, 3) := by decide +kernel
theorem dX7_isWanted_13 : decode cX7_isWanted 13 = .ok (.iload_n 1, 1) := by decide +kernel
theorem dX7_isWanted_14 : decode cX7_isWanted 14 = .ok (.iaload, 1) := by decide +kernel
theorem dX7_isWanted_15 : decode cX7_isWanted 15 = .ok (.aload_n 0, 1) := by decide +kernel
theorem dX7_isWanted_16 : decode cX7_isWanted 16 = .ok (.getfield 17, 3) := by decide +kernel
theorem dX7_isWanted_19 : decode cX7_isWanted 19 = .ok (.if_icmp .ge 7, 3) := by decide +kernel
theorem dX7_isWanted_22 : decode cX7_isWanted 22 = .ok (.iconst 1, 1) := by decide +kernel
theorem dX7_isWanted_23 : decode cX7_isWanted 23 = .ok (.goto 4, 3) := by decide +kernel
theorem dX7_isWanted_26 : decode cX7_isWanted 26 = .ok (.iconst 0, 1) := by decide +kernel
theorem dX7_isWanted_27 : decode cX7_isWanted 27 = .ok (.ireturn, 1) := by decide +kernel
set_option maxRecDepth 20000 in
theorem ggX7_plan_X7_ways : GoodIn wsX7_plan wsX7_ways := goodIn_r _ [21, 14, 13, 22, 23, 20, 24, 58, 59, 60, 61, 62, 63, 64, 65, 66, 67, 68, 69, 70, 71, 72, 73, 74, 75, 76, 77, 78, 79, 80, 81, 82, 83, 84, 85, 86, 87, 88, 89, 90, 91, 92, 93, 94, 95, 96, 97, 98, 99, 100] (by decide +kernel) (by decide +kernel)
set_option maxRecDepth 20000 in
theorem gX7_plan_X7_ways : GoodIn wsX7_plan (wsV RX7 181 RX7 yX7_ways wsX7_ways) := goodIn_app (goodIn_of _ (by decide +kernel)) ggX7_plan_X7_ways
set_option maxRecDepth 20000 in
theorem ggX7_plan_X7_hopeOf : GoodIn wsX7_plan wsX7_hopeOf := goodIn_r _ [28, 29, 30, 31, 32, 33, 34, 35, 36, 20, 37, 38, 39, 40, 41, 58, 59, 60, 61, 62, 63, 64, 65, 66, 67, 68, 69, 70, 71, 72, 73, 74, 75, 76, 77, 78, 79, 80, 81, 82, 83, 84, 85, 86, 87, 88, 89, 90, 91, 92, 93, 94, 95, 96, 97, 98, 99, 100] (by decide +kernel) (by decide +kernel)
set_option maxRecDepth 20000 in
theorem gX7_plan_X7_hopeOf : GoodIn wsX7_plan (wsV RX7 172 RX7 yX7_hopeOf wsX7_hopeOf) := goodIn_app (goodIn_of _ (by decide +kernel)) ggX7_plan_X7_hopeOf
set_option maxRecDepth 20000 in
theorem ggX7_plan_X7_isWanted : GoodIn wsX7_plan wsX7_isWanted := goodIn_r _ [45, 46, 47, 48, 58, 59, 60, 61, 62, 63, 64, 65, 66, 67, 68, 69, 70, 71, 72, 73, 74, 75, 76, 77, 78, 79, 80, 81, 82, 83, 84, 85, 86, 87, 88, 89, 90, 91, 92, 93, 94, 95, 96, 97, 98, 99, 100] (by decide +kernel) (by decide +kernel)
set_option maxRecDepth 20000 in
theorem gX7_plan_X7_isWanted : GoodIn wsX7_plan (wsV RX7 184 RX7 yX7_isWanted wsX7_isWanted) := goodIn_app (goodIn_of _ (by decide +kernel)) ggX7_plan_X7_isWanted
set_option maxRecDepth 20000 in
theorem ggX7_plan_X7_through : GoodIn wsX7_plan wsX7_through := goodIn_r _ [52, 3, 53, 54, 55, 20, 56, 57, 14, 13, 22, 23, 24, 58, 59, 60, 61, 62, 63, 64, 65, 66, 67, 68, 69, 70, 71, 72, 73, 74, 75, 76, 77, 78, 79, 80, 81, 82, 83, 84, 85, 86, 87, 88, 89, 90, 91, 92, 93, 94, 95, 96, 97, 98, 99, 100] (by decide +kernel) (by decide +kernel)
set_option maxRecDepth 20000 in
theorem gX7_plan_X7_through : GoodIn wsX7_plan (wsV RX7 187 RX7 yX7_through wsX7_through) := goodIn_app (goodIn_of _ (by decide +kernel)) ggX7_plan_X7_through
set_option maxRecDepth 20000 in
theorem ggX7_plan_X7_from : GoodIn wsX7_plan wsX7_from := goodIn_r _ [56, 57, 14, 13, 22, 23, 20, 24, 58, 59, 60, 61, 62, 63, 64, 65, 66, 67, 68, 69, 70, 71, 72, 73, 74, 75, 76, 77, 78, 79, 80, 81, 82, 83, 84, 85, 86, 87, 88, 89, 90, 91, 92, 93, 94, 95, 96, 97, 98, 99, 100] (by decide +kernel) (by decide +kernel)
set_option maxRecDepth 20000 in
theorem gX7_plan_X7_from : GoodIn wsX7_plan (wsV RX7 178 RX7 yX7_from wsX7_from) := goodIn_app (goodIn_of _ (by decide +kernel)) ggX7_plan_X7_from
set_option maxRecDepth 20000 in
theorem ggX7_plan_X7_far : GoodIn wsX7_plan wsX7_far := goodIn_r _ [24] (by decide +kernel) (by decide +kernel)
set_option maxRecDepth 20000 in
theorem gX7_plan_X7_far : GoodIn wsX7_plan (va_wsS RX7 175 yX7_far wsX7_far) := goodIn_app (goodIn_of _ (by decide +kernel)) ggX7_plan_X7_far
theorem dX7_plan_0 : decode cX7_plan 0 = .ok (.aload_n 0, 1) := by decide +kernel
theorem dX7_plan_1 : decode cX7_plan 1 = .ok (.iconst 0, 1) := by decide +kernel
theorem dX7_plan_2 : decode cX7_plan 2 = .ok (.putfield 88, 3) := by decide +kernel
theorem dX7_plan_5 : decode cX7_plan 5 = .ok (.iload_n 1, 1) := by decide +kernel
theorem dX7_plan_6 : decode cX7_plan 6 = .ok (.ifCond .lt 19, 3) := by decide +kernel
theorem dX7_plan_9 : decode cX7_plan 9 = .ok (.iload_n 1, 1) := by decide +kernel
theorem dX7_plan_10 : decode cX7_plan 10 = .ok (.bipush 28, 2) := by decide +kernel
theorem dX7_plan_12 : decode cX7_plan 12 = .ok (.if_icmp .gt 13, 3) := by decide +kernel
theorem dX7_plan_15 : decode cX7_plan 15 = .ok (.iload_n 2, 1) := by decide +kernel
theorem dX7_plan_16 : decode cX7_plan 16 = .ok (.ifCond .lt 9, 3) := by decide +kernel
theorem dX7_plan_19 : decode cX7_plan 19 = .ok (.iload_n 2, 1) := by decide +kernel
theorem dX7_plan_20 : decode cX7_plan 20 = .ok (.bipush 99, 2) := by decide +kernel
theorem dX7_plan_22 : decode cX7_plan 22 = .ok (.if_icmp .le 7, 3) := by decide +kernel
theorem dX7_plan_25 : decode cX7_plan 25 = .ok (.ldc2_w 155, 3) := by decide +kernel
theorem dX7_plan_28 : decode cX7_plan 28 = .ok (.lreturn, 1) := by decide +kernel
theorem dX7_plan_29 : decode cX7_plan 29 = .ok (.aload_n 0, 1) := by decide +kernel
theorem dX7_plan_30 : decode cX7_plan 30 = .ok (.invokevirtual 181, 3) := by decide +kernel
theorem dX7_plan_33 : decode cX7_plan 33 = .ok (.iconst 1, 1) := by decide +kernel
theorem dX7_plan_34 : decode cX7_plan 34 = .ok (.istore_n 3, 1) := by decide +kernel
theorem dX7_plan_35 : decode cX7_plan 35 = .ok (.iload_n 3, 1) := by decide +kernel
theorem dX7_plan_36 : decode cX7_plan 36 = .ok (.aload_n 0, 1) := by decide +kernel
theorem dX7_plan_37 : decode cX7_plan 37 = .ok (.getfield 143, 3) := by decide +kernel
theorem dX7_plan_40 : decode cX7_plan 40 = .ok (.if_icmp .gt 42, 3) := by decide +kernel
theorem dX7_plan_43 : decode cX7_plan 43 = .ok (.iconst 0, 1) := by decide +kernel
theorem dX7_plan_44 : decode cX7_plan 44 = .ok (.istore 4, 2) := by decide +kernel
theorem dX7_plan_46 : decode cX7_plan 46 = .ok (.iload 4, 2) := by decide +kernel
theorem dX7_plan_48 : decode cX7_plan 48 = .ok (.iconst 5, 1) := by decide +kernel
theorem dX7_plan_49 : decode cX7_plan 49 = .ok (.if_icmp .ge 27, 3) := by decide +kernel
theorem dX7_plan_52 : decode cX7_plan 52 = .ok (.aload_n 0, 1) := by decide +kernel
theorem dX7_plan_53 : decode cX7_plan 53 = .ok (.getfield 79, 3) := by decide +kernel
theorem dX7_plan_56 : decode cX7_plan 56 = .ok (.iconst 5, 1) := by decide +kernel
theorem dX7_plan_57 : decode cX7_plan 57 = .ok (.iload_n 3, 1) := by decide +kernel
theorem dX7_plan_58 : decode cX7_plan 58 = .ok (.imul, 1) := by decide +kernel
theorem dX7_plan_59 : decode cX7_plan 59 = .ok (.iload 4, 2) := by decide +kernel
theorem dX7_plan_61 : decode cX7_plan 61 = .ok (.iadd, 1) := by decide +kernel
theorem dX7_plan_62 : decode cX7_plan 62 = .ok (.aload_n 0, 1) := by decide +kernel
theorem dX7_plan_63 : decode cX7_plan 63 = .ok (.iload_n 3, 1) := by decide +kernel
theorem dX7_plan_64 : decode cX7_plan 64 = .ok (.iload 4, 2) := by decide +kernel
theorem dX7_plan_66 : decode cX7_plan 66 = .ok (.invokevirtual 172, 3) := by decide +kernel
theorem dX7_plan_69 : decode cX7_plan 69 = .ok (.iastore, 1) := by decide +kernel
theorem dX7_plan_70 : decode cX7_plan 70 = .ok (.iinc 4 1, 3) := by decide +kernel
theorem dX7_plan_73 : decode cX7_plan 73 = .ok (.goto (-27), 3) := by decide +kernel
theorem dX7_plan_76 : decode cX7_plan 76 = .ok (.iinc 3 1, 3) := by decide +kernel
theorem dX7_plan_79 : decode cX7_plan 79 = .ok (.goto (-44), 3) := by decide +kernel
theorem dX7_plan_82 : decode cX7_plan 82 = .ok (.iconst 0, 1) := by decide +kernel
theorem dX7_plan_83 : decode cX7_plan 83 = .ok (.istore_n 3, 1) := by decide +kernel
theorem dX7_plan_84 : decode cX7_plan 84 = .ok (.iload_n 3, 1) := by decide +kernel
theorem dX7_plan_85 : decode cX7_plan 85 = .ok (.bipush 8, 2) := by decide +kernel
theorem dX7_plan_87 : decode cX7_plan 87 = .ok (.if_icmp .ge 23, 3) := by decide +kernel
theorem dX7_plan_90 : decode cX7_plan 90 = .ok (.aload_n 0, 1) := by decide +kernel
theorem dX7_plan_91 : decode cX7_plan 91 = .ok (.getfield 73, 3) := by decide +kernel
theorem dX7_plan_94 : decode cX7_plan 94 = .ok (.iload_n 3, 1) := by decide +kernel
theorem dX7_plan_95 : decode cX7_plan 95 = .ok (.iconst 0, 1) := by decide +kernel
theorem dX7_plan_96 : decode cX7_plan 96 = .ok (.iastore, 1) := by decide +kernel
theorem dX7_plan_97 : decode cX7_plan 97 = .ok (.aload_n 0, 1) := by decide +kernel
theorem dX7_plan_98 : decode cX7_plan 98 = .ok (.getfield 76, 3) := by decide +kernel
theorem dX7_plan_101 : decode cX7_plan 101 = .ok (.iload_n 3, 1) := by decide +kernel
theorem dX7_plan_102 : decode cX7_plan 102 = .ok (.iconst 0, 1) := by decide +kernel
theorem dX7_plan_103 : decode cX7_plan 103 = .ok (.iastore, 1) := by decide +kernel
theorem dX7_plan_104 : decode cX7_plan 104 = .ok (.iinc 3 1, 3) := by decide +kernel
theorem dX7_plan_107 : decode cX7_plan 107 = .ok (.goto (-23), 3) := by decide +kernel
theorem dX7_plan_110 : decode cX7_plan 110 = .ok (.lconst 0, 1) := by decide +kernel
theorem dX7_plan_111 : decode cX7_plan 111 = .ok (.lstore_n 3, 1) := by decide +kernel
theorem dX7_plan_112 : decode cX7_plan 112 = .ok (.iconst 0, 1) := by decide +kernel
theorem dX7_plan_113 : decode cX7_plan 113 = .ok (.istore 5, 2) := by decide +kernel
theorem dX7_plan_115 : decode cX7_plan 115 = .ok (.iconst 0, 1) := by decide +kernel
theorem dX7_plan_116 : decode cX7_plan 116 = .ok (.istore 6, 2) := by decide +kernel
theorem dX7_plan_118 : decode cX7_plan 118 = .ok (.iconst 0, 1) := by decide +kernel
theorem dX7_plan_119 : decode cX7_plan 119 = .ok (.istore 7, 2) := by decide +kernel
theorem dX7_plan_121 : decode cX7_plan 121 = .ok (.iconst 1, 1) := by decide +kernel
theorem dX7_plan_122 : decode cX7_plan 122 = .ok (.istore 8, 2) := by decide +kernel
theorem dX7_plan_124 : decode cX7_plan 124 = .ok (.iload 8, 2) := by decide +kernel
theorem dX7_plan_126 : decode cX7_plan 126 = .ok (.ifCond .eq 332, 3) := by decide +kernel
theorem dX7_plan_129 : decode cX7_plan 129 = .ok (.aload_n 0, 1) := by decide +kernel
theorem dX7_plan_130 : decode cX7_plan 130 = .ok (.getfield 143, 3) := by decide +kernel
theorem dX7_plan_133 : decode cX7_plan 133 = .ok (.istore 9, 2) := by decide +kernel
theorem dX7_plan_135 : decode cX7_plan 135 = .ok (.iload 9, 2) := by decide +kernel
theorem dX7_plan_137 : decode cX7_plan 137 = .ok (.ifCond .le 37, 3) := by decide +kernel
theorem dX7_plan_140 : decode cX7_plan 140 = .ok (.aload_n 0, 1) := by decide +kernel
theorem dX7_plan_141 : decode cX7_plan 141 = .ok (.getfield 73, 3) := by decide +kernel
