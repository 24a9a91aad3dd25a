theorem dX9_draw_206 : decode cX9_draw 206 = .ok (.getfield 19, 3) := by decide +kernel
theorem dX9_draw_209 : decode cX9_draw 209 = .ok (.iload 7, 2) := by decide +kernel
theorem dX9_draw_211 : decode cX9_draw 211 = .ok (.iconst 1, 1) := by decide +kernel
theorem dX9_draw_212 : decode cX9_draw 212 = .ok (.iadd, 1) := by decide +kernel
theorem dX9_draw_213 : decode cX9_draw 213 = .ok (.laload, 1) := by decide +kernel
theorem dX9_draw_214 : decode cX9_draw 214 = .ok (.l2i, 1) := by decide +kernel
theorem dX9_draw_215 : decode cX9_draw 215 = .ok (.aload_n 0, 1) := by decide +kernel
theorem dX9_draw_216 : decode cX9_draw 216 = .ok (.getfield 19, 3) := by decide +kernel
theorem dX9_draw_219 : decode cX9_draw 219 = .ok (.iload 7, 2) := by decide +kernel
theorem dX9_draw_221 : decode cX9_draw 221 = .ok (.iconst 2, 1) := by decide +kernel
theorem dX9_draw_222 : decode cX9_draw 222 = .ok (.iadd, 1) := by decide +kernel
theorem dX9_draw_223 : decode cX9_draw 223 = .ok (.laload, 1) := by decide +kernel
theorem dX9_draw_224 : decode cX9_draw 224 = .ok (.l2i, 1) := by decide +kernel
theorem dX9_draw_225 : decode cX9_draw 225 = .ok (.invokevirtual 68, 3) := by decide +kernel
theorem dX9_draw_228 : decode cX9_draw 228 = .ok (.iinc 6 1, 3) := by decide +kernel
theorem dX9_draw_231 : decode cX9_draw 231 = .ok (.goto (-162), 3) := by decide +kernel
theorem dX9_draw_234 : decode cX9_draw 234 = .ok (.aload_n 0, 1) := by decide +kernel
theorem dX9_draw_235 : decode cX9_draw 235 = .ok (.iload 5, 2) := by decide +kernel
theorem dX9_draw_237 : decode cX9_draw 237 = .ok (.ifCond .ge 8, 3) := by decide +kernel
theorem dX9_draw_240 : decode cX9_draw 240 = .ok (.iload 4, 2) := by decide +kernel
theorem dX9_draw_242 : decode cX9_draw 242 = .ok (.goto 7, 3) := by decide +kernel
theorem dX9_draw_245 : decode cX9_draw 245 = .ok (.aload_n 0, 1) := by decide +kernel
theorem dX9_draw_246 : decode cX9_draw 246 = .ok (.getfield 64, 3) := by decide +kernel
theorem dX9_draw_249 : decode cX9_draw 249 = .ok (.putfield 64, 3) := by decide +kernel
theorem dX9_draw_252 : decode cX9_draw 252 = .ok (.iload 5, 2) := by decide +kernel
theorem dX9_draw_254 : decode cX9_draw 254 = .ok (.ifCond .ge 8, 3) := by decide +kernel
theorem dX9_draw_257 : decode cX9_draw 257 = .ok (.iload 5, 2) := by decide +kernel
theorem dX9_draw_259 : decode cX9_draw 259 = .ok (.goto 7, 3) := by decide +kernel
theorem dX9_draw_262 : decode cX9_draw 262 = .ok (.aload_n 0, 1) := by decide +kernel
theorem dX9_draw_263 : decode cX9_draw 263 = .ok (.getfield 64, 3) := by decide +kernel
theorem dX9_draw_266 : decode cX9_draw 266 = .ok (.ireturn, 1) := by decide +kernel
theorem dX9_clear_0 : decode cX9_clear 0 = .ok (.aload_n 0, 1) := by decide +kernel
theorem dX9_clear_1 : decode cX9_clear 1 = .ok (.getfield 64, 3) := by decide +kernel
theorem dX9_clear_4 : decode cX9_clear 4 = .ok (.istore_n 1, 1) := by decide +kernel
theorem dX9_clear_5 : decode cX9_clear 5 = .ok (.aload_n 0, 1) := by decide +kernel
theorem dX9_clear_6 : decode cX9_clear 6 = .ok (.iconst 0, 1) := by decide +kernel
theorem dX9_clear_7 : decode cX9_clear 7 = .ok (.putfield 64, 3) := by decide +kernel
theorem dX9_clear_10 : decode cX9_clear 10 = .ok (.iload_n 1, 1) := by decide +kernel
theorem dX9_clear_11 : decode cX9_clear 11 = .ok (.ireturn, 1) := by decide +kernel
set_option maxRecDepth 20000 in
theorem ggX9_point_X9_isAfter : GoodIn wsX9_point wsX9_isAfter := goodIn_r _ [9, 2, 3, 4, 10, 11, 12, 13, 14, 15, 16, 17, 18, 19, 20, 21, 22, 23, 24, 25, 26, 27, 28, 29, 30, 31, 32, 33] (by decide +kernel) (by decide +kernel)
set_option maxRecDepth 20000 in
theorem gX9_point_X9_isAfter : GoodIn wsX9_point (wsV RX9 77 RX9 yX9_isAfter wsX9_isAfter) := goodIn_app (goodIn_of _ (by decide +kernel)) ggX9_point_X9_isAfter
theorem dX9_point_0 : decode cX9_point 0 = .ok (.aload_n 0, 1) := by decide +kernel
theorem dX9_point_1 : decode cX9_point 1 = .ok (.getfield 74, 3) := by decide +kernel
theorem dX9_point_4 : decode cX9_point 4 = .ok (.istore 4, 2) := by decide +kernel
theorem dX9_point_6 : decode cX9_point 6 = .ok (.iload 4, 2) := by decide +kernel
theorem dX9_point_8 : decode cX9_point 8 = .ok (.ifCond .le 23, 3) := by decide +kernel
theorem dX9_point_11 : decode cX9_point 11 = .ok (.aload_n 0, 1) := by decide +kernel
theorem dX9_point_12 : decode cX9_point 12 = .ok (.iload 4, 2) := by decide +kernel
theorem dX9_point_14 : decode cX9_point 14 = .ok (.iconst 1, 1) := by decide +kernel
theorem dX9_point_15 : decode cX9_point 15 = .ok (.isub, 1) := by decide +kernel
theorem dX9_point_16 : decode cX9_point 16 = .ok (.iload_n 1, 1) := by decide +kernel
theorem dX9_point_17 : decode cX9_point 17 = .ok (.iload_n 2, 1) := by decide +kernel
theorem dX9_point_18 : decode cX9_point 18 = .ok (.iload_n 3, 1) := by decide +kernel
theorem dX9_point_19 : decode cX9_point 19 = .ok (.invokevirtual 77, 3) := by decide +kernel
theorem dX9_point_22 : decode cX9_point 22 = .ok (.ifCond .eq 9, 3) := by decide +kernel
theorem dX9_point_25 : decode cX9_point 25 = .ok (.iinc 4 (-1), 3) := by decide +kernel
theorem dX9_point_28 : decode cX9_point 28 = .ok (.goto (-22), 3) := by decide +kernel
theorem dX9_point_31 : decode cX9_point 31 = .ok (.iload 4, 2) := by decide +kernel
theorem dX9_point_33 : decode cX9_point 33 = .ok (.ifCond .le 43, 3) := by decide +kernel
theorem dX9_point_36 : decode cX9_point 36 = .ok (.aload_n 0, 1) := by decide +kernel
theorem dX9_point_37 : decode cX9_point 37 = .ok (.getfield 44, 3) := by decide +kernel
theorem dX9_point_40 : decode cX9_point 40 = .ok (.iload 4, 2) := by decide +kernel
theorem dX9_point_42 : decode cX9_point 42 = .ok (.iconst 1, 1) := by decide +kernel
theorem dX9_point_43 : decode cX9_point 43 = .ok (.isub, 1) := by decide +kernel
theorem dX9_point_44 : decode cX9_point 44 = .ok (.iaload, 1) := by decide +kernel
theorem dX9_point_45 : decode cX9_point 45 = .ok (.iload_n 1, 1) := by decide +kernel
theorem dX9_point_46 : decode cX9_point 46 = .ok (.if_icmp .ne 30, 3) := by decide +kernel
theorem dX9_point_49 : decode cX9_point 49 = .ok (.aload_n 0, 1) := by decide +kernel
theorem dX9_point_50 : decode cX9_point 50 = .ok (.getfield 47, 3) := by decide +kernel
theorem dX9_point_53 : decode cX9_point 53 = .ok (.iload 4, 2) := by decide +kernel
theorem dX9_point_55 : decode cX9_point 55 = .ok (.iconst 1, 1) := by decide +kernel
theorem dX9_point_56 : decode cX9_point 56 = .ok (.isub, 1) := by decide +kernel
theorem dX9_point_57 : decode cX9_point 57 = .ok (.iaload, 1) := by decide +kernel
theorem dX9_point_58 : decode cX9_point 58 = .ok (.iload_n 2, 1) := by decide +kernel
theorem dX9_point_59 : decode cX9_point 59 = .ok (.if_icmp .ne 17, 3) := by decide +kernel
theorem dX9_point_62 : decode cX9_point 62 = .ok (.aload_n 0, 1) := by decide +kernel
theorem dX9_point_63 : decode cX9_point 63 = .ok (.getfield 50, 3) := by decide +kernel
theorem dX9_point_66 : decode cX9_point 66 = .ok (.iload 4, 2) := by decide +kernel
theorem dX9_point_68 : decode cX9_point 68 = .ok (.iconst 1, 1) := by decide +kernel
theorem dX9_point_69 : decode cX9_point 69 = .ok (.isub, 1) := by decide +kernel
theorem dX9_point_70 : decode cX9_point 70 = .ok (.iaload, 1) := by decide +kernel
theorem dX9_point_71 : decode cX9_point 71 = .ok (.iload_n 3, 1) := by decide +kernel
theorem dX9_point_72 : decode cX9_point 72 = .ok (.if_icmp .ne 4, 3) := by decide +kernel
theorem dX9_point_75 : decode cX9_point 75 = .ok (.return_, 1) := by decide +kernel
theorem dX9_point_76 : decode cX9_point 76 = .ok (.aload_n 0, 1) := by decide +kernel
theorem dX9_point_77 : decode cX9_point 77 = .ok (.getfield 74, 3) := by decide +kernel
theorem dX9_point_80 : decode cX9_point 80 = .ok (.istore 5, 2) := by decide +kernel
theorem dX9_point_82 : decode cX9_point 82 = .ok (.iload 5, 2) := by decide +kernel
theorem dX9_point_84 : decode cX9_point 84 = .ok (.iload 4, 2) := by decide +kernel
theorem dX9_point_86 : decode cX9_point 86 = .ok (.if_icmp .le 57, 3) := by decide +kernel
theorem dX9_point_89 : decode cX9_point 89 = .ok (.aload_n 0, 1) := by decide +kernel
theorem dX9_point_90 : decode cX9_point 90 = .ok (.getfield 44, 3) := by decide +kernel
theorem dX9_point_93 : decode cX9_point 93 = .ok (.iload 5, 2) := by decide +kernel
theorem dX9_point_95 : decode cX9_point 95 = .ok (.aload_n 0, 1) := by decide +kernel
theorem dX9_point_96 : decode cX9_point 96 = .ok (.getfield 44, 3) := by decide +kernel
theorem dX9_point_99 : decode cX9_point 99 = .ok (.iload 5, 2) := by decide +kernel
theorem dX9_point_101 : decode cX9_point 101 = .ok (.iconst 1, 1) := by decide +kernel
theorem dX9_point_102 : decode cX9_point 102 = .ok (.isub, 1) := by decide +kernel
theorem dX9_point_103 : decode cX9_point 103 = .ok (.iaload, 1) := by decide +kernel
theorem dX9_point_104 : decode cX9_point 104 = .ok (.iastore, 1) := by decide +kernel
theorem dX9_point_105 : decode cX9_point 105 = .ok (.aload_n 0, 1) := by decide +kernel
theorem dX9_point_106 : decode cX9_point 106 = .ok (.getfield 47, 3) := by decide +kernel
theorem dX9_point_109 : decode cX9_point 109 = .ok (.iload 5, 2) := by decide +kernel
theorem dX9_point_111 : decode cX9_point 111 = .ok (.aload_n 0, 1) := by decide +kernel
theorem dX9_point_112 : decode cX9_point 112 = .ok (.getfield 47, 3) := by decide +kernel
theorem dX9_point_115 : decode cX9_point 115 = .ok (.iload 5, 2) := by decide +kernel
theorem dX9_point_117 : decode cX9_point 117 = .ok (.iconst 1, 1) := by decide +kernel
theorem dX9_point_118 : decode cX9_point 118 = .ok (.isub, 1) := by decide +kernel
theorem dX9_point_119 : decode cX9_point 119 = .ok (.iaload, 1) := by decide +kernel
theorem dX9_point_120 : decode cX9_point 120 = .ok (.iastore, 1) := by decide +kernel
theorem dX9_point_121 : decode cX9_point 121 = .ok (.aload_n 0, 1) := by decide +kernel
theorem dX9_point_122 : decode cX9_point 122 = .ok (.getfield 50, 3) := by decide +kernel
theorem dX9_point_125 : decode cX9_point 125 = .ok (.iload 5, 2) := by decide +kernel
theorem dX9_point_127 : decode cX9_point 127 = .ok (.aload_n 0, 1) := by decide +kernel
theorem dX9_point_128 : decode cX9_point 128 = .ok (.getfield 50, 3) := by decide +kernel
theorem dX9_point_131 : decode cX9_point 131 = .ok (.iload 5, 2) := by decide +kernel
theorem dX9_point_133 : decode cX9_point 133 = .ok (.iconst 1, 1) := by decide +kernel
theorem dX9_point_134 : decode cX9_point 134 = .ok (.isub, 1) := by decide +kernel
theorem dX9_point_135 : decode cX9_point 135 = .ok (.iaload, 1) := by decide +kernel
theorem dX9_point_136 : decode cX9_point 136 = .ok (.iastore, 1) := by decide +kernel
theorem dX9_point_137 : decode cX9_point 137 = .ok (.iinc 5 (-1), 3) := by decide +kernel
theorem dX9_point_140 : decode cX9_point 140 = .ok (.goto (-58), 3) := by decide +kernel
theorem dX9_point_143 : decode cX9_point 143 = .ok (.aload_n 0, 1) := by decide +kernel
theorem dX9_point_144 : decode cX9_point 144 = .ok (.getfield 44, 3) := by decide +kernel
theorem dX9_point_147 : decode cX9_point 147 = .ok (.iload 4, 2) := by decide +kernel
theorem dX9_point_149 : decode cX9_point 149 = .ok (.iload_n 1, 1) := by decide +kernel
theorem dX9_point_150 : decode cX9_point 150 = .ok (.iastore, 1) := by decide +kernel
theorem dX9_point_151 : decode cX9_point 151 = .ok (.aload_n 0, 1) := by decide +kernel
theorem dX9_point_152 : decode cX9_point 152 = .ok (.getfield 47, 3) := by decide +kernel
theorem dX9_point_155 : decode cX9_point 155 = .ok (.iload 4, 2) := by decide +kernel
theorem dX9_point_157 : decode cX9_point 157 = .ok (.iload_n 2, 1) := by decide +kernel
theorem dX9_point_158 : decode cX9_point 158 = .ok (.iastore, 1) := by decide +kernel
theorem dX9_point_159 : decode cX9_point 159 = .ok (.aload_n 0, 1) := by decide +kernel
theorem dX9_point_160 : decode cX9_point 160 = .ok (.getfield 50, 3) := by decide +kernel
theorem dX9_point_163 : decode cX9_point 163 = .ok (.iload 4, 2) := by decide +kernel
theorem dX9_point_165 : decode cX9_point 165 = .ok (.iload_n 3, 1) := by decide +kernel
theorem dX9_point_166 : decode cX9_point 166 = .ok (.iastore, 1) := by decide +kernel
theorem dX9_point_167 : decode cX9_point 167 = .ok (.aload_n 0, 1) := by decide +kernel
theorem dX9_point_168 : decode cX9_point 168 = .ok (.dup, 1) := by decide +kernel
theorem dX9_point_169 : decode cX9_point 169 = .ok (.getfield 74, 3) := by decide +kernel
theorem dX9_point_172 : decode cX9_point 172 = .ok (.iconst 1, 1) := by decide +kernel
theorem dX9_point_173 : decode cX9_point 173 = .ok (.iadd, 1) := by decide +kernel
theorem dX9_point_174 : decode cX9_point 174 = .ok (.putfield 74, 3) := by decide +kernel
theorem dX9_point_177 : decode cX9_point 177 = .ok (.return_, 1) := by decide +kernel
theorem dX9_isAfter_0 : decode cX9_isAfter 0 = .ok (.aload_n 0, 1) := by decide +kernel
theorem dX9_isAfter_1 : decode cX9_isAfter 1 = .ok (.getfield 44, 3) := by decide +kernel
theorem dX9_isAfter_4 : decode cX9_isAfter 4 = .ok (.iload_n 1, 1) := by decide +kernel
theorem dX9_isAfter_5 : decode cX9_isAfter 5 = .ok (.iaload, 1) := by decide +kernel
theorem dX9_isAfter_6 : decode cX9_isAfter 6 = .ok (.iload_n 2, 1) := by decide +kernel
theorem dX9_isAfter_7 : decode cX9_isAfter 7 = .ok (.if_icmp .eq 21, 3) := by decide +kernel
theorem dX9_isAfter_10 : decode cX9_isAfter 10 = .ok (.aload_n 0, 1) := by decide +kernel
theorem dX9_isAfter_11 : decode cX9_isAfter 11 = .ok (.getfield 44, 3) := by decide +kernel
theorem dX9_isAfter_14 : decode cX9_isAfter 14 = .ok (.iload_n 1, 1) := by decide +kernel
theorem dX9_isAfter_15 : decode cX9_isAfter 15 = .ok (.iaload, 1) := by decide +kernel
theorem dX9_isAfter_16 : decode cX9_isAfter 16 = .ok (.iload_n 2, 1) := by decide +kernel
theorem dX9_isAfter_17 : decode cX9_isAfter 17 = .ok (.if_icmp .le 7, 3) := by decide +kernel
theorem dX9_isAfter_20 : decode cX9_isAfter 20 = .ok (.iconst 1, 1) := by decide +kernel
theorem dX9_isAfter_21 : decode cX9_isAfter 21 = .ok (.goto 51, 3) := by decide +kernel
theorem dX9_isAfter_24 : decode cX9_isAfter 24 = .ok (.iconst 0, 1) := by decide +kernel
theorem dX9_isAfter_25 : decode cX9_isAfter 25 = .ok (.goto 47, 3) := by decide +kernel
theorem dX9_isAfter_28 : decode cX9_isAfter 28 = .ok (.aload_n 0, 1) := by decide +kernel
theorem dX9_isAfter_29 : decode cX9_isAfter 29 = .ok (.getfield 47, 3) := by decide +kernel
theorem dX9_isAfter_32 : decode cX9_isAfter 32 = .ok (.iload_n 1, 1) := by decide +kernel
theorem dX9_isAfter_33 : decode cX9_isAfter 33 = .ok (.iaload, 1) := by decide +kernel
theorem dX9_isAfter_34 : decode cX9_isAfter 34 = .ok (.iload_n 3, 1) := by decide +kernel
theorem dX9_isAfter_35 : decode cX9_isAfter 35 = .ok (.if_icmp .eq 21, 3) := by decide +kernel
theorem dX9_isAfter_38 : decode cX9_isAfter 38 = .ok (.aload_n 0, 1) := by decide +kernel
theorem dX9_isAfter_39 : decode cX9_isAfter 39 = .ok (.getfield 47, 3) := by decide +kernel
theorem dX9_isAfter_42 : decode cX9_isAfter 42 = .ok (.iload_n 1, 1) := by decide +kernel
theorem dX9_isAfter_43 : decode cX9_isAfter 43 = .ok (.iaload, 1) := by decide +kernel
theorem dX9_isAfter_44 : decode cX9_isAfter 44 = .ok (.iload_n 3, 1) := by decide +kernel
theorem dX9_isAfter_45 : decode cX9_isAfter 45 = .ok (.if_icmp .le 7, 3) := by decide +kernel
theorem dX9_isAfter_48 : decode cX9_isAfter 48 = .ok (.iconst 1, 1) := by decide +kernel
theorem dX9_isAfter_49 : decode cX9_isAfter 49 = .ok (.goto 23, 3) := by decide +kernel
theorem dX9_isAfter_52 : decode cX9_isAfter 52 = .ok (.iconst 0, 1) := by decide +kernel
theorem dX9_isAfter_53 : decode cX9_isAfter 53 = .ok (.goto 19, 3) := by decide +kernel
theorem dX9_isAfter_56 : decode cX9_isAfter 56 = .ok (.aload_n 0, 1) := by decide +kernel
theorem dX9_isAfter_57 : decode cX9_isAfter 57 = .ok (.getfield 50, 3) := by decide +kernel
theorem dX9_isAfter_60 : decode cX9_isAfter 60 = .ok (.iload_n 1, 1) := by decide +kernel
theorem dX9_isAfter_61 : decode cX9_isAfter 61 = .ok (.iaload, 1) := by decide +kernel
theorem dX9_isAfter_62 : decode cX9_isAfter 62 = .ok (.iload 4, 2) := by decide +kernel
theorem dX9_isAfter_64 : decode cX9_isAfter 64 = .ok (.if_icmp .le 7, 3) := by decide +kernel
theorem dX9_isAfter_67 : decode cX9_isAfter 67 = .ok (.iconst 1, 1) := by decide +kernel
theorem dX9_isAfter_68 : decode cX9_isAfter 68 = .ok (.goto 4, 3) := by decide +kernel
theorem dX9_isAfter_71 : decode cX9_isAfter 71 = .ok (.iconst 0, 1) := by decide +kernel
theorem dX9_isAfter_72 : decode cX9_isAfter 72 = .ok (.ireturn, 1) := by decide +kernel
theorem dX9_divisor_0 : decode cX9_divisor 0 = .ok (.iload_n 0, 1) := by decide +kernel
theorem dX9_divisor_1 : decode cX9_divisor 1 = .ok (.ifCond .ge 8, 3) := by decide +kernel
theorem dX9_divisor_4 : decode cX9_divisor 4 = .ok (.iload_n 0, 1) := by decide +kernel
theorem dX9_divisor_5 : decode cX9_divisor 5 = .ok (.ineg, 1) := by decide +kernel
theorem dX9_divisor_6 : decode cX9_divisor 6 = .ok (.goto 4, 3) := by decide +kernel
theorem dX9_divisor_9 : decode cX9_divisor 9 = .ok (.iload_n 0, 1) := by decide +kernel
theorem dX9_divisor_10 : decode cX9_divisor 10 = .ok (.istore_n 2, 1) := by decide +kernel
theorem dX9_divisor_11 : decode cX9_divisor 11 = .ok (.iload_n 1, 1) := by decide +kernel
theorem dX9_divisor_12 : decode cX9_divisor 12 = .ok (.ifCond .ge 8, 3) := by decide +kernel
theorem dX9_divisor_15 : decode cX9_divisor 15 = .ok (.iload_n 1, 1) := by decide +kernel
theorem dX9_divisor_16 : decode cX9_divisor 16 = .ok (.ineg, 1) := by decide +kernel
theorem dX9_divisor_17 : decode cX9_divisor 17 = .ok (.goto 4, 3) := by decide +kernel
theorem dX9_divisor_20 : decode cX9_divisor 20 = .ok (.iload_n 1, 1) := by decide +kernel
theorem dX9_divisor_21 : decode cX9_divisor 21 = .ok (.istore_n 3, 1) := by decide +kernel
theorem dX9_divisor_22 : decode cX9_divisor 22 = .ok (.iload_n 3, 1) := by decide +kernel
theorem dX9_divisor_23 : decode cX9_divisor 23 = .ok (.ifCond .eq 16, 3) := by decide +kernel
theorem dX9_divisor_26 : decode cX9_divisor 26 = .ok (.iload_n 2, 1) := by decide +kernel
theorem dX9_divisor_27 : decode cX9_divisor 27 = .ok (.iload_n 3, 1) := by decide +kernel
theorem dX9_divisor_28 : decode cX9_divisor 28 = .ok (.irem, 1) := by decide +kernel
theorem dX9_divisor_29 : decode cX9_divisor 29 = .ok (.istore 4, 2) := by decide +kernel
theorem dX9_divisor_31 : decode cX9_divisor 31 = .ok (.iload_n 3, 1) := by decide +kernel
theorem dX9_divisor_32 : decode cX9_divisor 32 = .ok (.istore_n 2, 1) := by decide +kernel
theorem dX9_divisor_33 : decode cX9_divisor 33 = .ok (.iload 4, 2) := by decide +kernel
theorem dX9_divisor_35 : decode cX9_divisor 35 = .ok (.istore_n 3, 1) := by decide +kernel
theorem dX9_divisor_36 : decode cX9_divisor 36 = .ok (.goto (-14), 3) := by decide +kernel
theorem dX9_divisor_39 : decode cX9_divisor 39 = .ok (.iload_n 2, 1) := by decide +kernel
theorem dX9_divisor_40 : decode cX9_divisor 40 = .ok (.ireturn, 1) := by decide +kernel
set_option maxRecDepth 20000 in
theorem ggX9_step_X9_divisor : GoodIn wsX9_step wsX9_divisor := goodIn_r _ [7] (by decide +kernel) (by decide +kernel)
set_option maxRecDepth 20000 in
theorem gX9_step_X9_divisor : GoodIn wsX9_step (va_wsS RX9 81 yX9_divisor wsX9_divisor) := goodIn_app (goodIn_of _ (by decide +kernel)) ggX9_step_X9_divisor
theorem dX9_step_0 : decode cX9_step 0 = .ok (.iload_n 1, 1) := by decide +kernel
theorem dX9_step_1 : decode cX9_step 1 = .ok (.iload_n 2, 1) := by decide +kernel
theorem dX9_step_2 : decode cX9_step 2 = .ok (.invokestatic 81, 3) := by decide +kernel
theorem dX9_step_5 : decode cX9_step 5 = .ok (.iload_n 3, 1) := by decide +kernel
theorem dX9_step_6 : decode cX9_step 6 = .ok (.invokestatic 81, 3) := by decide +kernel
theorem dX9_step_9 : decode cX9_step 9 = .ok (.istore 4, 2) := by decide +kernel
theorem dX9_step_11 : decode cX9_step 11 = .ok (.aload_n 0, 1) := by decide +kernel
theorem dX9_step_12 : decode cX9_step 12 = .ok (.iload 4, 2) := by decide +kernel
theorem dX9_step_14 : decode cX9_step 14 = .ok (.ifCond .ne 7, 3) := by decide +kernel
theorem dX9_step_17 : decode cX9_step 17 = .ok (.iconst 0, 1) := by decide +kernel
theorem dX9_step_18 : decode cX9_step 18 = .ok (.goto 7, 3) := by decide +kernel
theorem dX9_step_21 : decode cX9_step 21 = .ok (.iload_n 1, 1) := by decide +kernel
theorem dX9_step_22 : decode cX9_step 22 = .ok (.iload 4, 2) := by decide +kernel
theorem dX9_step_24 : decode cX9_step 24 = .ok (.idiv, 1) := by decide +kernel
theorem dX9_step_25 : decode cX9_step 25 = .ok (.putfield 85, 3) := by decide +kernel
theorem dX9_step_28 : decode cX9_step 28 = .ok (.aload_n 0, 1) := by decide +kernel
theorem dX9_step_29 : decode cX9_step 29 = .ok (.iload 4, 2) := by decide +kernel
theorem dX9_step_31 : decode cX9_step 31 = .ok (.ifCond .ne 7, 3) := by decide +kernel
theorem dX9_step_34 : decode cX9_step 34 = .ok (.iconst 0, 1) := by decide +kernel
theorem dX9_step_35 : decode cX9_step 35 = .ok (.goto 7, 3) := by decide +kernel
theorem dX9_step_38 : decode cX9_step 38 = .ok (.iload_n 2, 1) := by decide +kernel
theorem dX9_step_39 : decode cX9_step 39 = .ok (.iload 4, 2) := by decide +kernel
theorem dX9_step_41 : decode cX9_step 41 = .ok (.idiv, 1) := by decide +kernel
theorem dX9_step_42 : decode cX9_step 42 = .ok (.putfield 88, 3) := by decide +kernel
theorem dX9_step_45 : decode cX9_step 45 = .ok (.aload_n 0, 1) := by decide +kernel
theorem dX9_step_46 : decode cX9_step 46 = .ok (.iload 4, 2) := by decide +kernel
theorem dX9_step_48 : decode cX9_step 48 = .ok (.ifCond .ne 7, 3) := by decide +kernel
theorem dX9_step_51 : decode cX9_step 51 = .ok (.iconst 0, 1) := by decide +kernel
theorem dX9_step_52 : decode cX9_step 52 = .ok (.goto 7, 3) := by decide +kernel
theorem dX9_step_55 : decode cX9_step 55 = .ok (.iload_n 3, 1) := by decide +kernel
theorem dX9_step_56 : decode cX9_step 56 = .ok (.iload 4, 2) := by decide +kernel
theorem dX9_step_58 : decode cX9_step 58 = .ok (.idiv, 1) := by decide +kernel
theorem dX9_step_59 : decode cX9_step 59 = .ok (.putfield 91, 3) := by decide +kernel
theorem dX9_step_62 : decode cX9_step 62 = .ok (.return_, 1) := by decide +kernel
set_option maxRecDepth 20000 in
theorem ggX9_square_X9_step : GoodIn wsX9_square wsX9_step := goodIn_r _ [5, 6, 7, 8, 9, 10, 4, 11, 12, 13, 14, 15, 16, 17, 18, 19, 20, 21, 22, 23, 24, 25, 26, 27, 28, 29, 30, 31, 32, 33, 34, 35] (by decide +kernel) (by decide +kernel)
set_option maxRecDepth 20000 in
theorem gX9_square_X9_step : GoodIn wsX9_square (wsV RX9 94 RX9 yX9_step wsX9_step) := goodIn_app (goodIn_of _ (by decide +kernel)) ggX9_square_X9_step
theorem dX9_square_0 : decode cX9_square 0 = .ok (.aload_n 0, 1) := by decide +kernel
theorem dX9_square_1 : decode cX9_square 1 = .ok (.iload_n 2, 1) := by decide +kernel
theorem dX9_square_2 : decode cX9_square 2 = .ok (.iload 6, 2) := by decide +kernel
theorem dX9_square_4 : decode cX9_square 4 = .ok (.imul, 1) := by decide +kernel
theorem dX9_square_5 : decode cX9_square 5 = .ok (.iload_n 3, 1) := by decide +kernel
theorem dX9_square_6 : decode cX9_square 6 = .ok (.iload 5, 2) := by decide +kernel
theorem dX9_square_8 : decode cX9_square 8 = .ok (.imul, 1) := by decide +kernel
theorem dX9_square_9 : decode cX9_square 9 = .ok (.isub, 1) := by decide +kernel
theorem dX9_square_10 : decode cX9_square 10 = .ok (.iload_n 3, 1) := by decide +kernel
theorem dX9_square_11 : decode cX9_square 11 = .ok (.iload 4, 2) := by decide +kernel
theorem dX9_square_13 : decode cX9_square 13 = .ok (.imul, 1) := by decide +kernel
theorem dX9_square_14 : decode cX9_square 14 = .ok (.iload_n 1, 1) := by decide +kernel
theorem dX9_square_15 : decode cX9_square 15 = .ok (.iload 6, 2) := by decide +kernel
theorem dX9_square_17 : decode cX9_square 17 = .ok (.imul, 1) := by decide +kernel
theorem dX9_square_18 : decode cX9_square 18 = .ok (.isub, 1) := by decide +kernel
theorem dX9_square_19 : decode cX9_square 19 = .ok (.iload_n 1, 1) := by decide +kernel
theorem dX9_square_20 : decode cX9_square 20 = .ok (.iload 5, 2) := by decide +kernel
theorem dX9_square_22 : decode cX9_square 22 = .ok (.imul, 1) := by decide +kernel
theorem dX9_square_23 : decode cX9_square 23 = .ok (.iload_n 2, 1) := by decide +kernel
theorem dX9_square_24 : decode cX9_square 24 = .ok (.iload 4, 2) := by decide +kernel
theorem dX9_square_26 : decode cX9_square 26 = .ok (.imul, 1) := by decide +kernel
theorem dX9_square_27 : decode cX9_square 27 = .ok (.isub, 1) := by decide +kernel
theorem dX9_square_28 : decode cX9_square 28 = .ok (.invokevirtual 94, 3) := by decide +kernel
theorem dX9_square_31 : decode cX9_square 31 = .ok (.return_, 1) := by decide +kernel
theorem dX9_isNought_0 : decode cX9_isNought 0 = .ok (.aload_n 0, 1) := by decide +kernel
theorem dX9_isNought_1 : decode cX9_isNought 1 = .ok (.getfield 85, 3) := by decide +kernel
theorem dX9_isNought_4 : decode cX9_isNought 4 = .ok (.ifCond .ne 21, 3) := by decide +kernel
theorem dX9_isNought_7 : decode cX9_isNought 7 = .ok (.aload_n 0, 1) := by decide +kernel
theorem dX9_isNought_8 : decode cX9_isNought 8 = .ok (.getfield 88, 3) := by decide +kernel
theorem dX9_isNought_11 : decode cX9_isNought 11 = .ok (.ifCond .ne 14, 3) := by decide +kernel
theorem dX9_isNought_14 : decode cX9_isNought 14 = .ok (.aload_n 0, 1) := by decide +kernel
theorem dX9_isNought_15 : decode cX9_isNought 15 = .ok (.getfield 91, 3) := by decide +kernel
theorem dX9_isNought_18 : decode cX9_isNought 18 = .ok (.ifCond .ne 7, 3) := by decide +kernel
theorem dX9_isNought_21 : decode cX9_isNought 21 = .ok (.iconst 1, 1) := by decide +kernel
theorem dX9_isNought_22 : decode cX9_isNought 22 = .ok (.goto 4, 3) := by decide +kernel
theorem dX9_isNought_25 : decode cX9_isNought 25 = .ok (.iconst 0, 1) := by decide +kernel
theorem dX9_isNought_26 : decode cX9_isNought 26 = .ok (.ireturn, 1) := by decide +kernel
theorem dX9_along_0 : decode cX9_along 0 = .ok (.aload_n 0, 1) := by decide +kernel
theorem dX9_along_1 : decode cX9_along 1 = .ok (.getfield 85, 3) := by decide +kernel
theorem dX9_along_4 : decode cX9_along 4 = .ok (.aload_n 0, 1) := by decide +kernel
theorem dX9_along_5 : decode cX9_along 5 = .ok (.getfield 44, 3) := by decide +kernel
theorem dX9_along_8 : decode cX9_along 8 = .ok (.iload_n 1, 1) := by decide +kernel
theorem dX9_along_9 : decode cX9_along 9 = .ok (.iaload, 1) := by decide +kernel
theorem dX9_along_10 : decode cX9_along 10 = .ok (.imul, 1) := by decide +kernel
theorem dX9_along_11 : decode cX9_along 11 = .ok (.aload_n 0, 1) := by decide +kernel
theorem dX9_along_12 : decode cX9_along 12 = .ok (.getfield 88, 3) := by decide +kernel
theorem dX9_along_15 : decode cX9_along 15 = .ok (.aload_n 0, 1) := by decide +kernel
theorem dX9_along_16 : decode cX9_along 16 = .ok (.getfield 47, 3) := by decide +kernel
theorem dX9_along_19 : decode cX9_along 19 = .ok (.iload_n 1, 1) := by decide +kernel
theorem dX9_along_20 : decode cX9_along 20 = .ok (.iaload, 1) := by decide +kernel
theorem dX9_along_21 : decode cX9_along 21 = .ok (.imul, 1) := by decide +kernel
theorem dX9_along_22 : decode cX9_along 22 = .ok (.iadd, 1) := by decide +kernel
theorem dX9_along_23 : decode cX9_along 23 = .ok (.aload_n 0, 1) := by decide +kernel
theorem dX9_along_24 : decode cX9_along 24 = .ok (.getfield 91, 3) := by decide +kernel
theorem dX9_along_27 : decode cX9_along 27 = .ok (.aload_n 0, 1) := by decide +kernel
theorem dX9_along_28 : decode cX9_along 28 = .ok (.getfield 50, 3) := by decide +kernel
theorem dX9_along_31 : decode cX9_along 31 = .ok (.iload_n 1, 1) := by decide +kernel
theorem dX9_along_32 : decode cX9_along 32 = .ok (.iaload, 1) := by decide +kernel
theorem dX9_along_33 : decode cX9_along 33 = .ok (.imul, 1) := by decide +kernel
theorem dX9_along_34 : decode cX9_along 34 = .ok (.iadd, 1) := by decide +kernel
theorem dX9_along_35 : decode cX9_along 35 = .ok (.ireturn, 1) := by decide +kernel
set_option maxRecDepth 20000 in
theorem ggX9_side_X9_along : GoodIn wsX9_side wsX9_along := goodIn_r _ [11, 4, 12, 5, 13, 6, 14, 19, 20, 21, 22, 23, 24, 25, 26, 27, 28, 29, 30, 31, 32, 33, 34, 35, 36, 37, 38, 39, 40, 41, 42] (by decide +kernel) (by decide +kernel)
set_option maxRecDepth 20000 in
theorem gX9_side_X9_along : GoodIn wsX9_side (wsV RX9 97 RX9 yX9_along wsX9_along) := goodIn_app (goodIn_of _ (by decide +kernel)) ggX9_side_X9_along
set_option maxRecDepth 20000 in
theorem ggX9_side_X9_isLess : GoodIn wsX9_side wsX9_isLess := goodIn_r _ [18, 3, 4, 5, 6, 19, 20, 21, 22, 23, 24, 25, 26, 27, 28, 29, 30, 31, 32, 33, 34, 35, 36, 37, 38, 39, 40, 41, 42] (by decide +kernel) (by decide +kernel)
set_option maxRecDepth 20000 in
theorem gX9_side_X9_isLess : GoodIn wsX9_side (wsV RX9 101 RX9 yX9_isLess wsX9_isLess) := goodIn_app (goodIn_of _ (by decide +kernel)) ggX9_side_X9_isLess
theorem dX9_side_0 : decode cX9_side 0 = .ok (.aload_n 0, 1) := by decide +kernel
theorem dX9_side_1 : decode cX9_side 1 = .ok (.iload_n 2, 1) := by decide +kernel
theorem dX9_side_2 : decode cX9_side 2 = .ok (.invokevirtual 97, 3) := by decide +kernel
theorem dX9_side_5 : decode cX9_side 5 = .ok (.istore_n 3, 1) := by decide +kernel
theorem dX9_side_6 : decode cX9_side 6 = .ok (.iconst 0, 1) := by decide +kernel
theorem dX9_side_7 : decode cX9_side 7 = .ok (.istore 4, 2) := by decide +kernel
theorem dX9_side_9 : decode cX9_side 9 = .ok (.iload 4, 2) := by decide +kernel
theorem dX9_side_11 : decode cX9_side 11 = .ok (.aload_n 0, 1) := by decide +kernel
theorem dX9_side_12 : decode cX9_side 12 = .ok (.getfield 74, 3) := by decide +kernel
theorem dX9_side_15 : decode cX9_side 15 = .ok (.if_icmp .ge 20, 3) := by decide +kernel
theorem dX9_side_18 : decode cX9_side 18 = .ok (.aload_n 0, 1) := by decide +kernel
theorem dX9_side_19 : decode cX9_side 19 = .ok (.iload 4, 2) := by decide +kernel
theorem dX9_side_21 : decode cX9_side 21 = .ok (.invokevirtual 97, 3) := by decide +kernel
theorem dX9_side_24 : decode cX9_side 24 = .ok (.iload_n 3, 1) := by decide +kernel
theorem dX9_side_25 : decode cX9_side 25 = .ok (.if_icmp .le 4, 3) := by decide +kernel
theorem dX9_side_28 : decode cX9_side 28 = .ok (.return_, 1) := by decide +kernel
theorem dX9_side_29 : decode cX9_side 29 = .ok (.iinc 4 1, 3) := by decide +kernel
theorem dX9_side_32 : decode cX9_side 32 = .ok (.goto (-23), 3) := by decide +kernel
theorem dX9_side_35 : decode cX9_side 35 = .ok (.sipush 360, 3) := by decide +kernel
theorem dX9_side_38 : decode cX9_side 38 = .ok (.iload_n 1, 1) := by decide +kernel
theorem dX9_side_39 : decode cX9_side 39 = .ok (.imul, 1) := by decide +kernel
theorem dX9_side_40 : decode cX9_side 40 = .ok (.istore 4, 2) := by decide +kernel
theorem dX9_side_42 : decode cX9_side 42 = .ok (.iconst 0, 1) := by decide +kernel
theorem dX9_side_43 : decode cX9_side 43 = .ok (.istore 5, 2) := by decide +kernel
theorem dX9_side_45 : decode cX9_side 45 = .ok (.iload 5, 2) := by decide +kernel
theorem dX9_side_47 : decode cX9_side 47 = .ok (.aload_n 0, 1) := by decide +kernel
theorem dX9_side_48 : decode cX9_side 48 = .ok (.getfield 32, 3) := by decide +kernel
theorem dX9_side_51 : decode cX9_side 51 = .ok (.iload_n 1, 1) := by decide +kernel
theorem dX9_side_52 : decode cX9_side 52 = .ok (.iaload, 1) := by decide +kernel
theorem dX9_side_53 : decode cX9_side 53 = .ok (.if_icmp .ge 23, 3) := by decide +kernel
theorem dX9_side_56 : decode cX9_side 56 = .ok (.aload_n 0, 1) := by decide +kernel
theorem dX9_side_57 : decode cX9_side 57 = .ok (.iload 4, 2) := by decide +kernel
theorem dX9_side_59 : decode cX9_side 59 = .ok (.iconst 4, 1) := by decide +kernel
theorem dX9_side_60 : decode cX9_side 60 = .ok (.iload 5, 2) := by decide +kernel
theorem dX9_side_62 : decode cX9_side 62 = .ok (.imul, 1) := by decide +kernel
theorem dX9_side_63 : decode cX9_side 63 = .ok (.iadd, 1) := by decide +kernel
theorem dX9_side_64 : decode cX9_side 64 = .ok (.invokevirtual 101, 3) := by decide +kernel
theorem dX9_side_67 : decode cX9_side 67 = .ok (.ifCond .eq 9, 3) := by decide +kernel
theorem dX9_side_70 : decode cX9_side 70 = .ok (.iinc 5 1, 3) := by decide +kernel
theorem dX9_side_73 : decode cX9_side 73 = .ok (.goto (-28), 3) := by decide +kernel
theorem dX9_side_76 : decode cX9_side 76 = .ok (.iload 4, 2) := by decide +kernel
theorem dX9_side_78 : decode cX9_side 78 = .ok (.iconst 4, 1) := by decide +kernel
theorem dX9_side_79 : decode cX9_side 79 = .ok (.iload 5, 2) := by decide +kernel
theorem dX9_side_81 : decode cX9_side 81 = .ok (.imul, 1) := by decide +kernel
theorem dX9_side_82 : decode cX9_side 82 = .ok (.iadd, 1) := by decide +kernel
theorem dX9_side_83 : decode cX9_side 83 = .ok (.istore 6, 2) := by decide +kernel
theorem dX9_side_85 : decode cX9_side 85 = .ok (.iload 5, 2) := by decide +kernel
theorem dX9_side_87 : decode cX9_side 87 = .ok (.aload_n 0, 1) := by decide +kernel
theorem dX9_side_88 : decode cX9_side 88 = .ok (.getfield 32, 3) := by decide +kernel
theorem dX9_side_91 : decode cX9_side 91 = .ok (.iload_n 1, 1) := by decide +kernel
theorem dX9_side_92 : decode cX9_side 92 = .ok (.iaload, 1) := by decide +kernel
theorem dX9_side_93 : decode cX9_side 93 = .ok (.if_icmp .ge 50, 3) := by decide +kernel
theorem dX9_side_96 : decode cX9_side 96 = .ok (.aload_n 0, 1) := by decide +kernel
theorem dX9_side_97 : decode cX9_side 97 = .ok (.getfield 35, 3) := by decide +kernel
theorem dX9_side_100 : decode cX9_side 100 = .ok (.iload 6, 2) := by decide +kernel
theorem dX9_side_102 : decode cX9_side 102 = .ok (.iaload, 1) := by decide +kernel
theorem dX9_side_103 : decode cX9_side 103 = .ok (.aload_n 0, 1) := by decide +kernel
theorem dX9_side_104 : decode cX9_side 104 = .ok (.getfield 85, 3) := by decide +kernel
theorem dX9_side_107 : decode cX9_side 107 = .ok (.if_icmp .ne 36, 3) := by decide +kernel
theorem dX9_side_110 : decode cX9_side 110 = .ok (.aload_n 0, 1) := by decide +kernel
theorem dX9_side_111 : decode cX9_side 111 = .ok (.getfield 35, 3) := by decide +kernel
theorem dX9_side_114 : decode cX9_side 114 = .ok (.iload 6, 2) := by decide +kernel
theorem dX9_side_116 : decode cX9_side 116 = .ok (.iconst 1, 1) := by decide +kernel
theorem dX9_side_117 : decode cX9_side 117 = .ok (.iadd, 1) := by decide +kernel
theorem dX9_side_118 : decode cX9_side 118 = .ok (.iaload, 1) := by decide +kernel
theorem dX9_side_119 : decode cX9_side 119 = .ok (.aload_n 0, 1) := by decide +kernel
theorem dX9_side_120 : decode cX9_side 120 = .ok (.getfield 88, 3) := by decide +kernel
theorem dX9_side_123 : decode cX9_side 123 = .ok (.if_icmp .ne 20, 3) := by decide +kernel
theorem dX9_side_126 : decode cX9_side 126 = .ok (.aload_n 0, 1) := by decide +kernel
theorem dX9_side_127 : decode cX9_side 127 = .ok (.getfield 35, 3) := by decide +kernel
theorem dX9_side_130 : decode cX9_side 130 = .ok (.iload 6, 2) := by decide +kernel
theorem dX9_side_132 : decode cX9_side 132 = .ok (.iconst 2, 1) := by decide +kernel
theorem dX9_side_133 : decode cX9_side 133 = .ok (.iadd, 1) := by decide +kernel
theorem dX9_side_134 : decode cX9_side 134 = .ok (.iaload, 1) := by decide +kernel
theorem dX9_side_135 : decode cX9_side 135 = .ok (.aload_n 0, 1) := by decide +kernel
theorem dX9_side_136 : decode cX9_side 136 = .ok (.getfield 91, 3) := by decide +kernel
theorem dX9_side_139 : decode cX9_side 139 = .ok (.if_icmp .ne 4, 3) := by decide +kernel
theorem dX9_side_142 : decode cX9_side 142 = .ok (.return_, 1) := by decide +kernel
theorem dX9_side_143 : decode cX9_side 143 = .ok (.iconst 4, 1) := by decide +kernel
theorem dX9_side_144 : decode cX9_side 144 = .ok (.aload_n 0, 1) := by decide +kernel
theorem dX9_side_145 : decode cX9_side 145 = .ok (.getfield 32, 3) := by decide +kernel
theorem dX9_side_148 : decode cX9_side 148 = .ok (.iload_n 1, 1) := by decide +kernel
theorem dX9_side_149 : decode cX9_side 149 = .ok (.iaload, 1) := by decide +kernel
theorem dX9_side_150 : decode cX9_side 150 = .ok (.imul, 1) := by decide +kernel
theorem dX9_side_151 : decode cX9_side 151 = .ok (.iconst 1, 1) := by decide +kernel
theorem dX9_side_152 : decode cX9_side 152 = .ok (.isub, 1) := by decide +kernel
theorem dX9_side_153 : decode cX9_side 153 = .ok (.istore 7, 2) := by decide +kernel
theorem dX9_side_155 : decode cX9_side 155 = .ok (.iload 7, 2) := by decide +kernel
theorem dX9_side_157 : decode cX9_side 157 = .ok (.iconst 4, 1) := by decide +kernel
theorem dX9_side_158 : decode cX9_side 158 = .ok (.iload 5, 2) := by decide +kernel
theorem dX9_side_160 : decode cX9_side 160 = .ok (.imul, 1) := by decide +kernel
theorem dX9_side_161 : decode cX9_side 161 = .ok (.if_icmp .lt 31, 3) := by decide +kernel
theorem dX9_side_164 : decode cX9_side 164 = .ok (.aload_n 0, 1) := by decide +kernel
theorem dX9_side_165 : decode cX9_side 165 = .ok (.getfield 35, 3) := by decide +kernel
theorem dX9_side_168 : decode cX9_side 168 = .ok (.iload 4, 2) := by decide +kernel
theorem dX9_side_170 : decode cX9_side 170 = .ok (.iload 7, 2) := by decide +kernel
theorem dX9_side_172 : decode cX9_side 172 = .ok (.iadd, 1) := by decide +kernel
theorem dX9_side_173 : decode cX9_side 173 = .ok (.iconst 4, 1) := by decide +kernel
theorem dX9_side_174 : decode cX9_side 174 = .ok (.iadd, 1) := by decide +kernel
theorem dX9_side_175 : decode cX9_side 175 = .ok (.aload_n 0, 1) := by decide +kernel
theorem dX9_side_176 : decode cX9_side 176 = .ok (.getfield 35, 3) := by decide +kernel
theorem dX9_side_179 : decode cX9_side 179 = .ok (.iload 4, 2) := by decide +kernel
theorem dX9_side_181 : decode cX9_side 181 = .ok (.iload 7, 2) := by decide +kernel
theorem dX9_side_183 : decode cX9_side 183 = .ok (.iadd, 1) := by decide +kernel
theorem dX9_side_184 : decode cX9_side 184 = .ok (.iaload, 1) := by decide +kernel
theorem dX9_side_185 : decode cX9_side 185 = .ok (.iastore, 1) := by decide +kernel
theorem dX9_side_186 : decode cX9_side 186 = .ok (.iinc 7 (-1), 3) := by decide +kernel
theorem dX9_side_189 : decode cX9_side 189 = .ok (.goto (-34), 3) := by decide +kernel
theorem dX9_side_192 : decode cX9_side 192 = .ok (.aload_n 0, 1) := by decide +kernel
theorem dX9_side_193 : decode cX9_side 193 = .ok (.getfield 35, 3) := by decide +kernel
theorem dX9_side_196 : decode cX9_side 196 = .ok (.iload 6, 2) := by decide +kernel
theorem dX9_side_198 : decode cX9_side 198 = .ok (.aload_n 0, 1) := by decide +kernel
theorem dX9_side_199 : decode cX9_side 199 = .ok (.getfield 85, 3) := by decide +kernel
theorem dX9_side_202 : decode cX9_side 202 = .ok (.iastore, 1) := by decide +kernel
theorem dX9_side_203 : decode cX9_side 203 = .ok (.aload_n 0, 1) := by decide +kernel
theorem dX9_side_204 : decode cX9_side 204 = .ok (.getfield 35, 3) := by decide +kernel
theorem dX9_side_207 : decode cX9_side 207 = .ok (.iload 6, 2) := by decide +kernel
theorem dX9_side_209 : decode cX9_side 209 = .ok (.iconst 1, 1) := by decide +kernel
theorem dX9_side_210 : decode cX9_side 210 = .ok (.iadd, 1) := by decide +kernel
theorem dX9_side_211 : decode cX9_side 211 = .ok (.aload_n 0, 1) := by decide +kernel
theorem dX9_side_212 : decode cX9_side 212 = .ok (.getfield 88, 3) := by decide +kernel
theorem dX9_side_215 : decode cX9_side 215 = .ok (.iastore, 1) := by decide +kernel
theorem dX9_side_216 : decode cX9_side 216 = .ok (.aload_n 0, 1) := by decide +kernel
theorem dX9_side_217 : decode cX9_side 217 = .ok (.getfield 35, 3) := by decide +kernel
theorem dX9_side_220 : decode cX9_side 220 = .ok (.iload 6, 2) := by decide +kernel
theorem dX9_side_222 : decode cX9_side 222 = .ok (.iconst 2, 1) := by decide +kernel
theorem dX9_side_223 : decode cX9_side 223 = .ok (.iadd, 1) := by decide +kernel
theorem dX9_side_224 : decode cX9_side 224 = .ok (.aload_n 0, 1) := by decide +kernel
theorem dX9_side_225 : decode cX9_side 225 = .ok (.getfield 91, 3) := by decide +kernel
theorem dX9_side_228 : decode cX9_side 228 = .ok (.iastore, 1) := by decide +kernel
theorem dX9_side_229 : decode cX9_side 229 = .ok (.aload_n 0, 1) := by decide +kernel
theorem dX9_side_230 : decode cX9_side 230 = .ok (.getfield 35, 3) := by decide +kernel
theorem dX9_side_233 : decode cX9_side 233 = .ok (.iload 6, 2) := by decide +kernel
theorem dX9_side_235 : decode cX9_side 235 = .ok (.iconst 3, 1) := by decide +kernel
theorem dX9_side_236 : decode cX9_side 236 = .ok (.iadd, 1) := by decide +kernel
theorem dX9_side_237 : decode cX9_side 237 = .ok (.iload_n 3, 1) := by decide +kernel
theorem dX9_side_238 : decode cX9_side 238 = .ok (.iastore, 1) := by decide +kernel
theorem dX9_side_239 : decode cX9_side 239 = .ok (.aload_n 0, 1) := by decide +kernel
theorem dX9_side_240 : decode cX9_side 240 = .ok (.getfield 32, 3) := by decide +kernel
theorem dX9_side_243 : decode cX9_side 243 = .ok (.iload_n 1, 1) := by decide +kernel
theorem dX9_side_244 : decode cX9_side 244 = .ok (.dup2, 1) := by decide +kernel
theorem dX9_side_245 : decode cX9_side 245 = .ok (.iaload, 1) := by decide +kernel
theorem dX9_side_246 : decode cX9_side 246 = .ok (.iconst 1, 1) := by decide +kernel
theorem dX9_side_247 : decode cX9_side 247 = .ok (.iadd, 1) := by decide +kernel
theorem dX9_side_248 : decode cX9_side 248 = .ok (.iastore, 1) := by decide +kernel
theorem dX9_side_249 : decode cX9_side 249 = .ok (.return_, 1) := by decide +kernel
theorem dX9_isLess_0 : decode cX9_isLess 0 = .ok (.aload_n 0, 1) := by decide +kernel
theorem dX9_isLess_1 : decode cX9_isLess 1 = .ok (.getfield 35, 3) := by decide +kernel
theorem dX9_isLess_4 : decode cX9_isLess 4 = .ok (.iload_n 1, 1) := by decide +kernel
theorem dX9_isLess_5 : decode cX9_isLess 5 = .ok (.iaload, 1) := by decide +kernel
theorem dX9_isLess_6 : decode cX9_isLess 6 = .ok (.aload_n 0, 1) := by decide +kernel
theorem dX9_isLess_7 : decode cX9_isLess 7 = .ok (.getfield 85, 3) := by decide +kernel
theorem dX9_isLess_10 : decode cX9_isLess 10 = .ok (.if_icmp .eq 24, 3) := by decide +kernel
theorem dX9_isLess_13 : decode cX9_isLess 13 = .ok (.aload_n 0, 1) := by decide +kernel
theorem dX9_isLess_14 : decode cX9_isLess 14 = .ok (.getfield 35, 3) := by decide +kernel
theorem dX9_isLess_17 : decode cX9_isLess 17 = .ok (.iload_n 1, 1) := by decide +kernel
theorem dX9_isLess_18 : decode cX9_isLess 18 = .ok (.iaload, 1) := by decide +kernel
theorem dX9_isLess_19 : decode cX9_isLess 19 = .ok (.aload_n 0, 1) := by decide +kernel
theorem dX9_isLess_20 : decode cX9_isLess 20 = .ok (.getfield 85, 3) := by decide +kernel
theorem dX9_isLess_23 : decode cX9_isLess 23 = .ok (.if_icmp .ge 7, 3) := by decide +kernel
theorem dX9_isLess_26 : decode cX9_isLess 26 = .ok (.iconst 1, 1) := by decide +kernel
theorem dX9_isLess_27 : decode cX9_isLess 27 = .ok (.goto 65, 3) := by decide +kernel
theorem dX9_isLess_30 : decode cX9_isLess 30 = .ok (.iconst 0, 1) := by decide +kernel
theorem dX9_isLess_31 : decode cX9_isLess 31 = .ok (.goto 61, 3) := by decide +kernel
theorem dX9_isLess_34 : decode cX9_isLess 34 = .ok (.aload_n 0, 1) := by decide +kernel
theorem dX9_isLess_35 : decode cX9_isLess 35 = .ok (.getfield 35, 3) := by decide +kernel
theorem dX9_isLess_38 : decode cX9_isLess 38 = .ok (.iload_n 1, 1) := by decide +kernel
theorem dX9_isLess_39 : decode cX9_isLess 39 = .ok (.iconst 1, 1) := by decide +kernel
theorem dX9_isLess_40 : decode cX9_isLess 40 = .ok (.iadd, 1) := by decide +kernel
theorem dX9_isLess_41 : decode cX9_isLess 41 = .ok (.iaload, 1) := by decide +kernel
theorem dX9_isLess_42 : decode cX9_isLess 42 = .ok (.aload_n 0, 1) := by decide +kernel
theorem dX9_isLess_43 : decode cX9_isLess 43 = .ok (.getfield 88, 3) := by decide +kernel
theorem dX9_isLess_46 : decode cX9_isLess 46 = .ok (.if_icmp .eq 26, 3) := by decide +kernel
theorem dX9_isLess_49 : decode cX9_isLess 49 = .ok (.aload_n 0, 1) := by decide +kernel
theorem dX9_isLess_50 : decode cX9_isLess 50 = .ok (.getfield 35, 3) := by decide +kernel
theorem dX9_isLess_53 : decode cX9_isLess 53 = .ok (.iload_n 1, 1) := by decide +kernel
theorem dX9_isLess_54 : decode cX9_isLess 54 = .ok (.iconst 1, 1) := by decide +kernel
theorem dX9_isLess_55 : decode cX9_isLess 55 = .ok (.iadd, 1) := by decide +kernel
theorem dX9_isLess_56 : decode cX9_isLess 56 = .ok (.iaload, 1) := by decide +kernel
theorem dX9_isLess_57 : decode cX9_isLess 57 = .ok (.aload_n 0, 1) := by decide +kernel
theorem dX9_isLess_58 : decode cX9_isLess 58 = .ok (.getfield 88, 3) := by decide +kernel
theorem dX9_isLess_61 : decode cX9_isLess 61 = .ok (.if_icmp .ge 7, 3) := by decide +kernel
theorem dX9_isLess_64 : decode cX9_isLess 64 = .ok (.iconst 1, 1) := by decide +kernel
theorem dX9_isLess_65 : decode cX9_isLess 65 = .ok (.goto 27, 3) := by decide +kernel
theorem dX9_isLess_68 : decode cX9_isLess 68 = .ok (.iconst 0, 1) := by decide +kernel
theorem dX9_isLess_69 : decode cX9_isLess 69 = .ok (.goto 23, 3) := by decide +kernel
theorem dX9_isLess_72 : decode cX9_isLess 72 = .ok (.aload_n 0, 1) := by decide +kernel
theorem dX9_isLess_73 : decode cX9_isLess 73 = .ok (.getfield 35, 3) := by decide +kernel
theorem dX9_isLess_76 : decode cX9_isLess 76 = .ok (.iload_n 1, 1) := by decide +kernel
theorem dX9_isLess_77 : decode cX9_isLess 77 = .ok (.iconst 2, 1) := by decide +kernel
theorem dX9_isLess_78 : decode cX9_isLess 78 = .ok (.iadd, 1) := by decide +kernel
theorem dX9_isLess_79 : decode cX9_isLess 79 = .ok (.iaload, 1) := by decide +kernel
theorem dX9_isLess_80 : decode cX9_isLess 80 = .ok (.aload_n 0, 1) := by decide +kernel
theorem dX9_isLess_81 : decode cX9_isLess 81 = .ok (.getfield 91, 3) := by decide +kernel
theorem dX9_isLess_84 : decode cX9_isLess 84 = .ok (.if_icmp .ge 7, 3) := by decide +kernel
theorem dX9_isLess_87 : decode cX9_isLess 87 = .ok (.iconst 1, 1) := by decide +kernel
theorem dX9_isLess_88 : decode cX9_isLess 88 = .ok (.goto 4, 3) := by decide +kernel
theorem dX9_isLess_91 : decode cX9_isLess 91 = .ok (.iconst 0, 1) := by decide +kernel
theorem dX9_isLess_92 : decode cX9_isLess 92 = .ok (.ireturn, 1) := by decide +kernel
set_option maxRecDepth 20000 in
theorem ggX9_bothSides_X9_side : GoodIn wsX9_bothSides wsX9_side := goodIn_r _ [8, 9, 10, 11, 1, 2, 3, 12, 13, 14, 7, 15, 16, 17, 18, 19, 20, 21, 22, 23, 24, 25, 26, 27, 28, 29, 30, 31, 32, 33, 34, 35, 36, 37, 38, 39, 40, 41, 42, 43, 44, 45, 46] (by decide +kernel) (by decide +kernel)
set_option maxRecDepth 20000 in
theorem gX9_bothSides_X9_side : GoodIn wsX9_bothSides (wsV RX9 105 RX9 yX9_side wsX9_side) := goodIn_app (goodIn_of _ (by decide +kernel)) ggX9_bothSides_X9_side
theorem dX9_bothSides_0 : decode cX9_bothSides 0 = .ok (.aload_n 0, 1) := by decide +kernel
theorem dX9_bothSides_1 : decode cX9_bothSides 1 = .ok (.iload_n 1, 1) := by decide +kernel
theorem dX9_bothSides_2 : decode cX9_bothSides 2 = .ok (.iload_n 2, 1) := by decide +kernel
theorem dX9_bothSides_3 : decode cX9_bothSides 3 = .ok (.invokevirtual 105, 3) := by decide +kernel
theorem dX9_bothSides_6 : decode cX9_bothSides 6 = .ok (.aload_n 0, 1) := by decide +kernel
theorem dX9_bothSides_7 : decode cX9_bothSides 7 = .ok (.aload_n 0, 1) := by decide +kernel
theorem dX9_bothSides_8 : decode cX9_bothSides 8 = .ok (.getfield 85, 3) := by decide +kernel
theorem dX9_bothSides_11 : decode cX9_bothSides 11 = .ok (.ineg, 1) := by decide +kernel
theorem dX9_bothSides_12 : decode cX9_bothSides 12 = .ok (.putfield 85, 3) := by decide +kernel
theorem dX9_bothSides_15 : decode cX9_bothSides 15 = .ok (.aload_n 0, 1) := by decide +kernel
theorem dX9_bothSides_16 : decode cX9_bothSides 16 = .ok (.aload_n 0, 1) := by decide +kernel
theorem dX9_bothSides_17 : decode cX9_bothSides 17 = .ok (.getfield 88, 3) := by decide +kernel
theorem dX9_bothSides_20 : decode cX9_bothSides 20 = .ok (.ineg, 1) := by decide +kernel
theorem dX9_bothSides_21 : decode cX9_bothSides 21 = .ok (.putfield 88, 3) := by decide +kernel
theorem dX9_bothSides_24 : decode cX9_bothSides 24 = .ok (.aload_n 0, 1) := by decide +kernel
theorem dX9_bothSides_25 : decode cX9_bothSides 25 = .ok (.aload_n 0, 1) := by decide +kernel
theorem dX9_bothSides_26 : decode cX9_bothSides 26 = .ok (.getfield 91, 3) := by decide +kernel
theorem dX9_bothSides_29 : decode cX9_bothSides 29 = .ok (.ineg, 1) := by decide +kernel
theorem dX9_bothSides_30 : decode cX9_bothSides 30 = .ok (.putfield 91, 3) := by decide +kernel
theorem dX9_bothSides_33 : decode cX9_bothSides 33 = .ok (.aload_n 0, 1) := by decide +kernel
theorem dX9_bothSides_34 : decode cX9_bothSides 34 = .ok (.iload_n 1, 1) := by decide +kernel
theorem dX9_bothSides_35 : decode cX9_bothSides 35 = .ok (.iload_n 2, 1) := by decide +kernel
theorem dX9_bothSides_36 : decode cX9_bothSides 36 = .ok (.invokevirtual 105, 3) := by decide +kernel
theorem dX9_bothSides_39 : decode cX9_bothSides 39 = .ok (.return_, 1) := by decide +kernel
set_option maxRecDepth 20000 in
theorem ggX9_planeOf_X9_square : GoodIn wsX9_planeOf wsX9_square := goodIn_r _ [8, 9, 10, 11, 7, 12, 13, 14, 15, 16, 17, 18, 19, 20, 21, 22, 23, 24, 25, 26, 27, 28, 29, 30, 31, 32, 33, 34, 35, 36, 37, 38, 39, 40, 41, 42] (by decide +kernel) (by decide +kernel)
set_option maxRecDepth 20000 in
theorem gX9_planeOf_X9_square : GoodIn wsX9_planeOf (wsV RX9 109 RX9 yX9_square wsX9_square) := goodIn_app (goodIn_of _ (by decide +kernel)) ggX9_planeOf_X9_square
theorem dX9_planeOf_0 : decode cX9_planeOf 0 = .ok (.aload_n 0, 1) := by decide +kernel
theorem dX9_planeOf_1 : decode cX9_planeOf 1 = .ok (.aload_n 0, 1) := by decide +kernel
theorem dX9_planeOf_2 : decode cX9_planeOf 2 = .ok (.getfield 44, 3) := by decide +kernel
theorem dX9_planeOf_5 : decode cX9_planeOf 5 = .ok (.iload_n 2, 1) := by decide +kernel
theorem dX9_planeOf_6 : decode cX9_planeOf 6 = .ok (.iaload, 1) := by decide +kernel
theorem dX9_planeOf_7 : decode cX9_planeOf 7 = .ok (.aload_n 0, 1) := by decide +kernel
theorem dX9_planeOf_8 : decode cX9_planeOf 8 = .ok (.getfield 44, 3) := by decide +kernel
theorem dX9_planeOf_11 : decode cX9_planeOf 11 = .ok (.iload_n 1, 1) := by decide +kernel
theorem dX9_planeOf_12 : decode cX9_planeOf 12 = .ok (.iaload, 1) := by decide +kernel
theorem dX9_planeOf_13 : decode cX9_planeOf 13 = .ok (.isub, 1) := by decide +kernel
theorem dX9_planeOf_14 : decode cX9_planeOf 14 = .ok (.aload_n 0, 1) := by decide +kernel
theorem dX9_planeOf_15 : decode cX9_planeOf 15 = .ok (.getfield 47, 3) := by decide +kernel
theorem dX9_planeOf_18 : decode cX9_planeOf 18 = .ok (.iload_n 2, 1) := by decide +kernel
theorem dX9_planeOf_19 : decode cX9_planeOf 19 = .ok (.iaload, 1) := by decide +kernel
theorem dX9_planeOf_20 : decode cX9_planeOf 20 = .ok (.aload_n 0, 1) := by decide +kernel
theorem dX9_planeOf_21 : decode cX9_planeOf 21 = .ok (.getfield 47, 3) := by decide +kernel
theorem dX9_planeOf_24 : decode cX9_planeOf 24 = .ok (.iload_n 1, 1) := by decide +kernel
theorem dX9_planeOf_25 : decode cX9_planeOf 25 = .ok (.iaload, 1) := by decide +kernel
theorem dX9_planeOf_26 : decode cX9_planeOf 26 = .ok (.isub, 1) := by decide +kernel
theorem dX9_planeOf_27 : decode cX9_planeOf 27 = .ok (.aload_n 0, 1) := by decide +kernel
theorem dX9_planeOf_28 : decode cX9_planeOf 28 = .ok (.getfield 50, 3) := by decide +kernel
theorem dX9_planeOf_31 : decode cX9_planeOf 31 = .ok (.iload_n 2, 1) := by decide +kernel
theorem dX9_planeOf_32 : decode cX9_planeOf 32 = .ok (.iaload, 1) := by decide +kernel
theorem dX9_planeOf_33 : decode cX9_planeOf 33 = .ok (.aload_n 0, 1) := by decide +kernel
theorem dX9_planeOf_34 : decode cX9_planeOf 34 = .ok (.getfield 50, 3) := by decide +kernel
theorem dX9_planeOf_37 : decode cX9_planeOf 37 = .ok (.iload_n 1, 1) := by decide +kernel
theorem dX9_planeOf_38 : decode cX9_planeOf 38 = .ok (.iaload, 1) := by decide +kernel
theorem dX9_planeOf_39 : decode cX9_planeOf 39 = .ok (.isub, 1) := by decide +kernel
theorem dX9_planeOf_40 : decode cX9_planeOf 40 = .ok (.aload_n 0, 1) := by decide +kernel
theorem dX9_planeOf_41 : decode cX9_planeOf 41 = .ok (.getfield 44, 3) := by decide +kernel
theorem dX9_planeOf_44 : decode cX9_planeOf 44 = .ok (.iload_n 3, 1) := by decide +kernel
theorem dX9_planeOf_45 : decode cX9_planeOf 45 = .ok (.iaload, 1) := by decide +kernel
theorem dX9_planeOf_46 : decode cX9_planeOf 46 = .ok (.aload_n 0, 1) := by decide +kernel
theorem dX9_planeOf_47 : decode cX9_planeOf 47 = .ok (.getfield 44, 3) := by decide +kernel
theorem dX9_planeOf_50 : decode cX9_planeOf 50 = .ok (.iload_n 1, 1) := by decide +kernel
theorem dX9_planeOf_51 : decode cX9_planeOf 51 = .ok (.iaload, 1) := by decide +kernel
theorem dX9_planeOf_52 : decode cX9_planeOf 52 = .ok (.isub, 1) := by decide +kernel
theorem dX9_planeOf_53 : decode cX9_planeOf 53 = .ok (.aload_n 0, 1) := by decide +kernel
theorem dX9_planeOf_54 : decode cX9_planeOf 54 = .ok (.getfield 47, 3) := by decide +kernel
theorem dX9_planeOf_57 : decode cX9_planeOf 57 = .ok (.iload_n 3, 1) := by decide +kernel
theorem dX9_planeOf_58 : decode cX9_planeOf 58 = .ok (.iaload, 1) := by decide +kernel
theorem dX9_planeOf_59 : decode cX9_planeOf 59 = .ok (.aload_n 0, 1) := by decide +kernel
theorem dX9_planeOf_60 : decode cX9_planeOf 60 = .ok (.getfield 47, 3) := by decide +kernel
theorem dX9_planeOf_63 : decode cX9_planeOf 63 = .ok (.iload_n 1, 1) := by decide +kernel
theorem dX9_planeOf_64 : decode cX9_planeOf 64 = .ok (.iaload, 1) := by decide +kernel
theorem dX9_planeOf_65 : decode cX9_planeOf 65 = .ok (.isub, 1) := by decide +kernel
theorem dX9_planeOf_66 : decode cX9_planeOf 66 = .ok (.aload_n 0, 1) := by decide +kernel
theorem dX9_planeOf_67 : decode cX9_planeOf 67 = .ok (.getfield 50, 3) := by decide +kernel
theorem dX9_planeOf_70 : decode cX9_planeOf 70 = .ok (.iload_n 3, 1) := by decide +kernel
theorem dX9_planeOf_71 : decode cX9_planeOf 71 = .ok (.iaload, 1) := by decide +kernel
theorem dX9_planeOf_72 : decode cX9_planeOf 72 = .ok (.aload_n 0, 1) := by decide +kernel
theorem dX9_planeOf_73 : decode cX9_planeOf 73 = .ok (.getfield 50, 3) := by decide +kernel
theorem dX9_planeOf_76 : decode cX9_planeOf 76 = .ok (.iload_n 1, 1) := by decide +kernel
theorem dX9_planeOf_77 : decode cX9_planeOf 77 = .ok (.iaload, 1) := by decide +kernel
theorem dX9_planeOf_78 : decode cX9_planeOf 78 = .ok (.isub, 1) := by decide +kernel
theorem dX9_planeOf_79 : decode cX9_planeOf 79 = .ok (.invokevirtual 109, 3) := by decide +kernel
theorem dX9_planeOf_82 : decode cX9_planeOf 82 = .ok (.return_, 1) := by decide +kernel
set_option maxRecDepth 20000 in
theorem ggX9_filled_X9_step : GoodIn wsX9_filled wsX9_step := goodIn_r _ [13, 6, 7, 8, 14, 15, 12, 16, 33, 34, 35, 36, 37, 38, 39, 40, 41, 42, 43, 44, 45, 46, 47, 48, 49, 50, 51, 52, 53, 54, 55, 56] (by decide +kernel) (by decide +kernel)
set_option maxRecDepth 20000 in
theorem gX9_filled_X9_step : GoodIn wsX9_filled (wsV RX9 94 RX9 yX9_step wsX9_step) := goodIn_app (goodIn_of _ (by decide +kernel)) ggX9_filled_X9_step
set_option maxRecDepth 20000 in
theorem ggX9_filled_X9_planeOf : GoodIn wsX9_filled wsX9_planeOf := goodIn_r _ [20, 2, 3, 4, 21, 22, 23, 12, 24, 9, 10, 11, 13, 6, 7, 8, 14, 15, 16, 33, 34, 35, 36, 37, 38, 39, 40, 41, 42, 43, 44, 45, 46, 47, 48, 49, 50, 51, 52, 53, 54, 55, 56] (by decide +kernel) (by decide +kernel)
set_option maxRecDepth 20000 in
theorem gX9_filled_X9_planeOf : GoodIn wsX9_filled (wsV RX9 113 RX9 yX9_planeOf wsX9_planeOf) := goodIn_app (goodIn_of _ (by decide +kernel)) ggX9_filled_X9_planeOf
set_option maxRecDepth 20000 in
theorem ggX9_filled_X9_isNought : GoodIn wsX9_filled wsX9_isNought := goodIn_r _ [28, 6, 7, 8, 33, 34, 35, 36, 37, 38, 39, 40, 41, 42, 43, 44, 45, 46, 47, 48, 49, 50, 51, 52, 53, 54, 55, 56] (by decide +kernel) (by decide +kernel)
set_option maxRecDepth 20000 in
theorem gX9_filled_X9_isNought : GoodIn wsX9_filled (wsV RX9 116 RX9 yX9_isNought wsX9_isNought) := goodIn_app (goodIn_of _ (by decide +kernel)) ggX9_filled_X9_isNought
set_option maxRecDepth 20000 in
theorem ggX9_filled_X9_along : GoodIn wsX9_filled wsX9_along := goodIn_r _ [32, 6, 2, 7, 3, 8, 4, 33, 34, 35, 36, 37, 38, 39, 40, 41, 42, 43, 44, 45, 46, 47, 48, 49, 50, 51, 52, 53, 54, 55, 56] (by decide +kernel) (by decide +kernel)
set_option maxRecDepth 20000 in
theorem gX9_filled_X9_along : GoodIn wsX9_filled (wsV RX9 97 RX9 yX9_along wsX9_along) := goodIn_app (goodIn_of _ (by decide +kernel)) ggX9_filled_X9_along
theorem dX9_filled_0 : decode cX9_filled 0 = .ok (.aload_n 0, 1) := by decide +kernel
theorem dX9_filled_1 : decode cX9_filled 1 = .ok (.getfield 74, 3) := by decide +kernel
theorem dX9_filled_4 : decode cX9_filled 4 = .ok (.iconst 1, 1) := by decide +kernel
theorem dX9_filled_5 : decode cX9_filled 5 = .ok (.if_icmp .ne 5, 3) := by decide +kernel
theorem dX9_filled_8 : decode cX9_filled 8 = .ok (.iconst 0, 1) := by decide +kernel
theorem dX9_filled_9 : decode cX9_filled 9 = .ok (.ireturn, 1) := by decide +kernel
theorem dX9_filled_10 : decode cX9_filled 10 = .ok (.aload_n 0, 1) := by decide +kernel
theorem dX9_filled_11 : decode cX9_filled 11 = .ok (.aload_n 0, 1) := by decide +kernel
theorem dX9_filled_12 : decode cX9_filled 12 = .ok (.getfield 44, 3) := by decide +kernel
theorem dX9_filled_15 : decode cX9_filled 15 = .ok (.iconst 1, 1) := by decide +kernel
theorem dX9_filled_16 : decode cX9_filled 16 = .ok (.iaload, 1) := by decide +kernel
theorem dX9_filled_17 : decode cX9_filled 17 = .ok (.aload_n 0, 1) := by decide +kernel
theorem dX9_filled_18 : decode cX9_filled 18 = .ok (.getfield 44, 3) := by decide +kernel
theorem dX9_filled_21 : decode cX9_filled 21 = .ok (.iconst 0, 1) := by decide +kernel
theorem dX9_filled_22 : decode cX9_filled 22 = .ok (.iaload, 1) := by decide +kernel
theorem dX9_filled_23 : decode cX9_filled 23 = .ok (.isub, 1) := by decide +kernel
theorem dX9_filled_24 : decode cX9_filled 24 = .ok (.aload_n 0, 1) := by decide +kernel
theorem dX9_filled_25 : decode cX9_filled 25 = .ok (.getfield 47, 3) := by decide +kernel
theorem dX9_filled_28 : decode cX9_filled 28 = .ok (.iconst 1, 1) := by decide +kernel
theorem dX9_filled_29 : decode cX9_filled 29 = .ok (.iaload, 1) := by decide +kernel
theorem dX9_filled_30 : decode cX9_filled 30 = .ok (.aload_n 0, 1) := by decide +kernel
theorem dX9_filled_31 : decode cX9_filled 31 = .ok (.getfield 47, 3) := by decide +kernel
theorem dX9_filled_34 : decode cX9_filled 34 = .ok (.iconst 0, 1) := by decide +kernel
theorem dX9_filled_35 : decode cX9_filled 35 = .ok (.iaload, 1) := by decide +kernel
theorem dX9_filled_36 : decode cX9_filled 36 = .ok (.isub, 1) := by decide +kernel
theorem dX9_filled_37 : decode cX9_filled 37 = .ok (.aload_n 0, 1) := by decide +kernel
theorem dX9_filled_38 : decode cX9_filled 38 = .ok (.getfield 50, 3) := by decide +kernel
theorem dX9_filled_41 : decode cX9_filled 41 = .ok (.iconst 1, 1) := by decide +kernel
theorem dX9_filled_42 : decode cX9_filled 42 = .ok (.iaload, 1) := by decide +kernel
theorem dX9_filled_43 : decode cX9_filled 43 = .ok (.aload_n 0, 1) := by decide +kernel
theorem dX9_filled_44 : decode cX9_filled 44 = .ok (.getfield 50, 3) := by decide +kernel
theorem dX9_filled_47 : decode cX9_filled 47 = .ok (.iconst 0, 1) := by decide +kernel
theorem dX9_filled_48 : decode cX9_filled 48 = .ok (.iaload, 1) := by decide +kernel
theorem dX9_filled_49 : decode cX9_filled 49 = .ok (.isub, 1) := by decide +kernel
theorem dX9_filled_50 : decode cX9_filled 50 = .ok (.invokevirtual 94, 3) := by decide +kernel
theorem dX9_filled_53 : decode cX9_filled 53 = .ok (.aload_n 0, 1) := by decide +kernel
theorem dX9_filled_54 : decode cX9_filled 54 = .ok (.getfield 41, 3) := by decide +kernel
theorem dX9_filled_57 : decode cX9_filled 57 = .ok (.iconst 4, 1) := by decide +kernel
theorem dX9_filled_58 : decode cX9_filled 58 = .ok (.iload_n 1, 1) := by decide +kernel
theorem dX9_filled_59 : decode cX9_filled 59 = .ok (.imul, 1) := by decide +kernel
theorem dX9_filled_60 : decode cX9_filled 60 = .ok (.aload_n 0, 1) := by decide +kernel
theorem dX9_filled_61 : decode cX9_filled 61 = .ok (.getfield 85, 3) := by decide +kernel
theorem dX9_filled_64 : decode cX9_filled 64 = .ok (.iastore, 1) := by decide +kernel
theorem dX9_filled_65 : decode cX9_filled 65 = .ok (.aload_n 0, 1) := by decide +kernel
theorem dX9_filled_66 : decode cX9_filled 66 = .ok (.getfield 41, 3) := by decide +kernel
theorem dX9_filled_69 : decode cX9_filled 69 = .ok (.iconst 4, 1) := by decide +kernel
theorem dX9_filled_70 : decode cX9_filled 70 = .ok (.iload_n 1, 1) := by decide +kernel
theorem dX9_filled_71 : decode cX9_filled 71 = .ok (.imul, 1) := by decide +kernel
theorem dX9_filled_72 : decode cX9_filled 72 = .ok (.iconst 1, 1) := by decide +kernel
theorem dX9_filled_73 : decode cX9_filled 73 = .ok (.iadd, 1) := by decide +kernel
theorem dX9_filled_74 : decode cX9_filled 74 = .ok (.aload_n 0, 1) := by decide +kernel
theorem dX9_filled_75 : decode cX9_filled 75 = .ok (.getfield 88, 3) := by decide +kernel
theorem dX9_filled_78 : decode cX9_filled 78 = .ok (.iastore, 1) := by decide +kernel
theorem dX9_filled_79 : decode cX9_filled 79 = .ok (.aload_n 0, 1) := by decide +kernel
theorem dX9_filled_80 : decode cX9_filled 80 = .ok (.getfield 41, 3) := by decide +kernel
theorem dX9_filled_83 : decode cX9_filled 83 = .ok (.iconst 4, 1) := by decide +kernel
theorem dX9_filled_84 : decode cX9_filled 84 = .ok (.iload_n 1, 1) := by decide +kernel
theorem dX9_filled_85 : decode cX9_filled 85 = .ok (.imul, 1) := by decide +kernel
theorem dX9_filled_86 : decode cX9_filled 86 = .ok (.iconst 2, 1) := by decide +kernel
theorem dX9_filled_87 : decode cX9_filled 87 = .ok (.iadd, 1) := by decide +kernel
theorem dX9_filled_88 : decode cX9_filled 88 = .ok (.aload_n 0, 1) := by decide +kernel
theorem dX9_filled_89 : decode cX9_filled 89 = .ok (.getfield 91, 3) := by decide +kernel
theorem dX9_filled_92 : decode cX9_filled 92 = .ok (.iastore, 1) := by decide +kernel
theorem dX9_filled_93 : decode cX9_filled 93 = .ok (.iconst 2, 1) := by decide +kernel
theorem dX9_filled_94 : decode cX9_filled 94 = .ok (.istore_n 2, 1) := by decide +kernel
theorem dX9_filled_95 : decode cX9_filled 95 = .ok (.iload_n 2, 1) := by decide +kernel
theorem dX9_filled_96 : decode cX9_filled 96 = .ok (.aload_n 0, 1) := by decide +kernel
theorem dX9_filled_97 : decode cX9_filled 97 = .ok (.getfield 74, 3) := by decide +kernel
theorem dX9_filled_100 : decode cX9_filled 100 = .ok (.if_icmp .ge 26, 3) := by decide +kernel
theorem dX9_filled_103 : decode cX9_filled 103 = .ok (.aload_n 0, 1) := by decide +kernel
theorem dX9_filled_104 : decode cX9_filled 104 = .ok (.iconst 0, 1) := by decide +kernel
theorem dX9_filled_105 : decode cX9_filled 105 = .ok (.iconst 1, 1) := by decide +kernel
theorem dX9_filled_106 : decode cX9_filled 106 = .ok (.iload_n 2, 1) := by decide +kernel
theorem dX9_filled_107 : decode cX9_filled 107 = .ok (.invokevirtual 113, 3) := by decide +kernel
theorem dX9_filled_110 : decode cX9_filled 110 = .ok (.aload_n 0, 1) := by decide +kernel
theorem dX9_filled_111 : decode cX9_filled 111 = .ok (.invokevirtual 116, 3) := by decide +kernel
theorem dX9_filled_114 : decode cX9_filled 114 = .ok (.ifCond .ne 6, 3) := by decide +kernel
theorem dX9_filled_117 : decode cX9_filled 117 = .ok (.goto 9, 3) := by decide +kernel
theorem dX9_filled_120 : decode cX9_filled 120 = .ok (.iinc 2 1, 3) := by decide +kernel
theorem dX9_filled_123 : decode cX9_filled 123 = .ok (.goto (-28), 3) := by decide +kernel
theorem dX9_filled_126 : decode cX9_filled 126 = .ok (.iload_n 2, 1) := by decide +kernel
theorem dX9_filled_127 : decode cX9_filled 127 = .ok (.aload_n 0, 1) := by decide +kernel
theorem dX9_filled_128 : decode cX9_filled 128 = .ok (.getfield 74, 3) := by decide +kernel
theorem dX9_filled_131 : decode cX9_filled 131 = .ok (.if_icmp .ne 5, 3) := by decide +kernel
theorem dX9_filled_134 : decode cX9_filled 134 = .ok (.iconst 1, 1) := by decide +kernel
theorem dX9_filled_135 : decode cX9_filled 135 = .ok (.ireturn, 1) := by decide +kernel
theorem dX9_filled_136 : decode cX9_filled 136 = .ok (.aload_n 0, 1) := by decide +kernel
theorem dX9_filled_137 : decode cX9_filled 137 = .ok (.getfield 85, 3) := by decide +kernel
theorem dX9_filled_140 : decode cX9_filled 140 = .ok (.ifCond .lt 31, 3) := by decide +kernel
theorem dX9_filled_143 : decode cX9_filled 143 = .ok (.aload_n 0, 1) := by decide +kernel
theorem dX9_filled_144 : decode cX9_filled 144 = .ok (.getfield 85, 3) := by decide +kernel
theorem dX9_filled_147 : decode cX9_filled 147 = .ok (.ifCond .ne 28, 3) := by decide +kernel
theorem dX9_filled_150 : decode cX9_filled 150 = .ok (.aload_n 0, 1) := by decide +kernel
theorem dX9_filled_151 : decode cX9_filled 151 = .ok (.getfield 88, 3) := by decide +kernel
theorem dX9_filled_154 : decode cX9_filled 154 = .ok (.ifCond .lt 17, 3) := by decide +kernel
theorem dX9_filled_157 : decode cX9_filled 157 = .ok (.aload_n 0, 1) := by decide +kernel
theorem dX9_filled_158 : decode cX9_filled 158 = .ok (.getfield 88, 3) := by decide +kernel
theorem dX9_filled_161 : decode cX9_filled 161 = .ok (.ifCond .ne 14, 3) := by decide +kernel
theorem dX9_filled_164 : decode cX9_filled 164 = .ok (.aload_n 0, 1) := by decide +kernel
theorem dX9_filled_165 : decode cX9_filled 165 = .ok (.getfield 91, 3) := by decide +kernel
theorem dX9_filled_168 : decode cX9_filled 168 = .ok (.ifCond .ge 7, 3) := by decide +kernel
theorem dX9_filled_171 : decode cX9_filled 171 = .ok (.iconst 1, 1) := by decide +kernel
theorem dX9_filled_172 : decode cX9_filled 172 = .ok (.goto 4, 3) := by decide +kernel
theorem dX9_filled_175 : decode cX9_filled 175 = .ok (.iconst 0, 1) := by decide +kernel
theorem dX9_filled_176 : decode cX9_filled 176 = .ok (.istore_n 3, 1) := by decide +kernel
theorem dX9_filled_177 : decode cX9_filled 177 = .ok (.iload_n 3, 1) := by decide +kernel
theorem dX9_filled_178 : decode cX9_filled 178 = .ok (.ifCond .eq 30, 3) := by decide +kernel
theorem dX9_filled_181 : decode cX9_filled 181 = .ok (.aload_n 0, 1) := by decide +kernel
theorem dX9_filled_182 : decode cX9_filled 182 = .ok (.aload_n 0, 1) := by decide +kernel
theorem dX9_filled_183 : decode cX9_filled 183 = .ok (.getfield 85, 3) := by decide +kernel
theorem dX9_filled_186 : decode cX9_filled 186 = .ok (.ineg, 1) := by decide +kernel
theorem dX9_filled_187 : decode cX9_filled 187 = .ok (.putfield 85, 3) := by decide +kernel
theorem dX9_filled_190 : decode cX9_filled 190 = .ok (.aload_n 0, 1) := by decide +kernel
theorem dX9_filled_191 : decode cX9_filled 191 = .ok (.aload_n 0, 1) := by decide +kernel
theorem dX9_filled_192 : decode cX9_filled 192 = .ok (.getfield 88, 3) := by decide +kernel
theorem dX9_filled_195 : decode cX9_filled 195 = .ok (.ineg, 1) := by decide +kernel
theorem dX9_filled_196 : decode cX9_filled 196 = .ok (.putfield 88, 3) := by decide +kernel
theorem dX9_filled_199 : decode cX9_filled 199 = .ok (.aload_n 0, 1) := by decide +kernel
theorem dX9_filled_200 : decode cX9_filled 200 = .ok (.aload_n 0, 1) := by decide +kernel
theorem dX9_filled_201 : decode cX9_filled 201 = .ok (.getfield 91, 3) := by decide +kernel
theorem dX9_filled_204 : decode cX9_filled 204 = .ok (.ineg, 1) := by decide +kernel
theorem dX9_filled_205 : decode cX9_filled 205 = .ok (.putfield 91, 3) := by decide +kernel
theorem dX9_filled_208 : decode cX9_filled 208 = .ok (.aload_n 0, 1) := by decide +kernel
theorem dX9_filled_209 : decode cX9_filled 209 = .ok (.iconst 0, 1) := by decide +kernel
theorem dX9_filled_210 : decode cX9_filled 210 = .ok (.invokevirtual 97, 3) := by decide +kernel
theorem dX9_filled_213 : decode cX9_filled 213 = .ok (.istore 4, 2) := by decide +kernel
theorem dX9_filled_215 : decode cX9_filled 215 = .ok (.iconst 0, 1) := by decide +kernel
theorem dX9_filled_216 : decode cX9_filled 216 = .ok (.istore 5, 2) := by decide +kernel
theorem dX9_filled_218 : decode cX9_filled 218 = .ok (.iload 5, 2) := by decide +kernel
theorem dX9_filled_220 : decode cX9_filled 220 = .ok (.aload_n 0, 1) := by decide +kernel
theorem dX9_filled_221 : decode cX9_filled 221 = .ok (.getfield 74, 3) := by decide +kernel
theorem dX9_filled_224 : decode cX9_filled 224 = .ok (.if_icmp .ge 22, 3) := by decide +kernel
theorem dX9_filled_227 : decode cX9_filled 227 = .ok (.aload_n 0, 1) := by decide +kernel
theorem dX9_filled_228 : decode cX9_filled 228 = .ok (.iload 5, 2) := by decide +kernel
theorem dX9_filled_230 : decode cX9_filled 230 = .ok (.invokevirtual 97, 3) := by decide +kernel
theorem dX9_filled_233 : decode cX9_filled 233 = .ok (.iload 4, 2) := by decide +kernel
theorem dX9_filled_235 : decode cX9_filled 235 = .ok (.if_icmp .eq 5, 3) := by decide +kernel
theorem dX9_filled_238 : decode cX9_filled 238 = .ok (.iconst 3, 1) := by decide +kernel
theorem dX9_filled_239 : decode cX9_filled 239 = .ok (.ireturn, 1) := by decide +kernel
theorem dX9_filled_240 : decode cX9_filled 240 = .ok (.iinc 5 1, 3) := by decide +kernel
theorem dX9_filled_243 : decode cX9_filled 243 = .ok (.goto (-25), 3) := by decide +kernel
theorem dX9_filled_246 : decode cX9_filled 246 = .ok (.aload_n 0, 1) := by decide +kernel
theorem dX9_filled_247 : decode cX9_filled 247 = .ok (.getfield 41, 3) := by decide +kernel
theorem dX9_filled_250 : decode cX9_filled 250 = .ok (.iconst 4, 1) := by decide +kernel
theorem dX9_filled_251 : decode cX9_filled 251 = .ok (.iload_n 1, 1) := by decide +kernel
theorem dX9_filled_252 : decode cX9_filled 252 = .ok (.imul, 1) := by decide +kernel
theorem dX9_filled_253 : decode cX9_filled 253 = .ok (.aload_n 0, 1) := by decide +kernel
theorem dX9_filled_254 : decode cX9_filled 254 = .ok (.getfield 85, 3) := by decide +kernel
theorem dX9_filled_257 : decode cX9_filled 257 = .ok (.iastore, 1) := by decide +kernel
theorem dX9_filled_258 : decode cX9_filled 258 = .ok (.aload_n 0, 1) := by decide +kernel
theorem dX9_filled_259 : decode cX9_filled 259 = .ok (.getfield 41, 3) := by decide +kernel
theorem dX9_filled_262 : decode cX9_filled 262 = .ok (.iconst 4, 1) := by decide +kernel
theorem dX9_filled_263 : decode cX9_filled 263 = .ok (.iload_n 1, 1) := by decide +kernel
theorem dX9_filled_264 : decode cX9_filled 264 = .ok (.imul, 1) := by decide +kernel
theorem dX9_filled_265 : decode cX9_filled 265 = .ok (.iconst 1, 1) := by decide +kernel
theorem dX9_filled_266 : decode cX9_filled 266 = .ok (.iadd, 1) := by decide +kernel
theorem dX9_filled_267 : decode cX9_filled 267 = .ok (.aload_n 0, 1) := by decide +kernel
theorem dX9_filled_268 : decode cX9_filled 268 = .ok (.getfield 88, 3) := by decide +kernel
theorem dX9_filled_271 : decode cX9_filled 271 = .ok (.iastore, 1) := by decide +kernel
theorem dX9_filled_272 : decode cX9_filled 272 = .ok (.aload_n 0, 1) := by decide +kernel
theorem dX9_filled_273 : decode cX9_filled 273 = .ok (.getfield 41, 3) := by decide +kernel
theorem dX9_filled_276 : decode cX9_filled 276 = .ok (.iconst 4, 1) := by decide +kernel
theorem dX9_filled_277 : decode cX9_filled 277 = .ok (.iload_n 1, 1) := by decide +kernel
theorem dX9_filled_278 : decode cX9_filled 278 = .ok (.imul, 1) := by decide +kernel
theorem dX9_filled_279 : decode cX9_filled 279 = .ok (.iconst 2, 1) := by decide +kernel
theorem dX9_filled_280 : decode cX9_filled 280 = .ok (.iadd, 1) := by decide +kernel
theorem dX9_filled_281 : decode cX9_filled 281 = .ok (.aload_n 0, 1) := by decide +kernel
theorem dX9_filled_282 : decode cX9_filled 282 = .ok (.getfield 91, 3) := by decide +kernel
theorem dX9_filled_285 : decode cX9_filled 285 = .ok (.iastore, 1) := by decide +kernel
theorem dX9_filled_286 : decode cX9_filled 286 = .ok (.aload_n 0, 1) := by decide +kernel
theorem dX9_filled_287 : decode cX9_filled 287 = .ok (.getfield 41, 3) := by decide +kernel
theorem dX9_filled_290 : decode cX9_filled 290 = .ok (.iconst 4, 1) := by decide +kernel
theorem dX9_filled_291 : decode cX9_filled 291 = .ok (.iload_n 1, 1) := by decide +kernel
theorem dX9_filled_292 : decode cX9_filled 292 = .ok (.imul, 1) := by decide +kernel
theorem dX9_filled_293 : decode cX9_filled 293 = .ok (.iconst 3, 1) := by decide +kernel
theorem dX9_filled_294 : decode cX9_filled 294 = .ok (.iadd, 1) := by decide +kernel
theorem dX9_filled_295 : decode cX9_filled 295 = .ok (.iload 4, 2) := by decide +kernel
theorem dX9_filled_297 : decode cX9_filled 297 = .ok (.iastore, 1) := by decide +kernel
theorem dX9_filled_298 : decode cX9_filled 298 = .ok (.iconst 2, 1) := by decide +kernel
