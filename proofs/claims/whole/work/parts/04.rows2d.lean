theorem dX9_filled_299 : decode cX9_filled 299 = .ok (.ireturn, 1) := by decide +kernel
theorem dX9_isOn_0 : decode cX9_isOn 0 = .ok (.sipush 360, 3) := by decide +kernel
theorem dX9_isOn_3 : decode cX9_isOn 3 = .ok (.iload_n 1, 1) := by decide +kernel
theorem dX9_isOn_4 : decode cX9_isOn 4 = .ok (.imul, 1) := by decide +kernel
theorem dX9_isOn_5 : decode cX9_isOn 5 = .ok (.iconst 4, 1) := by decide +kernel
theorem dX9_isOn_6 : decode cX9_isOn 6 = .ok (.iload_n 2, 1) := by decide +kernel
theorem dX9_isOn_7 : decode cX9_isOn 7 = .ok (.imul, 1) := by decide +kernel
theorem dX9_isOn_8 : decode cX9_isOn 8 = .ok (.iadd, 1) := by decide +kernel
theorem dX9_isOn_9 : decode cX9_isOn 9 = .ok (.istore 6, 2) := by decide +kernel
theorem dX9_isOn_11 : decode cX9_isOn 11 = .ok (.aload_n 0, 1) := by decide +kernel
theorem dX9_isOn_12 : decode cX9_isOn 12 = .ok (.getfield 35, 3) := by decide +kernel
theorem dX9_isOn_15 : decode cX9_isOn 15 = .ok (.iload 6, 2) := by decide +kernel
theorem dX9_isOn_17 : decode cX9_isOn 17 = .ok (.iaload, 1) := by decide +kernel
theorem dX9_isOn_18 : decode cX9_isOn 18 = .ok (.iload_n 3, 1) := by decide +kernel
theorem dX9_isOn_19 : decode cX9_isOn 19 = .ok (.imul, 1) := by decide +kernel
theorem dX9_isOn_20 : decode cX9_isOn 20 = .ok (.aload_n 0, 1) := by decide +kernel
theorem dX9_isOn_21 : decode cX9_isOn 21 = .ok (.getfield 35, 3) := by decide +kernel
theorem dX9_isOn_24 : decode cX9_isOn 24 = .ok (.iload 6, 2) := by decide +kernel
theorem dX9_isOn_26 : decode cX9_isOn 26 = .ok (.iconst 1, 1) := by decide +kernel
theorem dX9_isOn_27 : decode cX9_isOn 27 = .ok (.iadd, 1) := by decide +kernel
theorem dX9_isOn_28 : decode cX9_isOn 28 = .ok (.iaload, 1) := by decide +kernel
theorem dX9_isOn_29 : decode cX9_isOn 29 = .ok (.iload 4, 2) := by decide +kernel
theorem dX9_isOn_31 : decode cX9_isOn 31 = .ok (.imul, 1) := by decide +kernel
theorem dX9_isOn_32 : decode cX9_isOn 32 = .ok (.iadd, 1) := by decide +kernel
theorem dX9_isOn_33 : decode cX9_isOn 33 = .ok (.aload_n 0, 1) := by decide +kernel
theorem dX9_isOn_34 : decode cX9_isOn 34 = .ok (.getfield 35, 3) := by decide +kernel
theorem dX9_isOn_37 : decode cX9_isOn 37 = .ok (.iload 6, 2) := by decide +kernel
theorem dX9_isOn_39 : decode cX9_isOn 39 = .ok (.iconst 2, 1) := by decide +kernel
theorem dX9_isOn_40 : decode cX9_isOn 40 = .ok (.iadd, 1) := by decide +kernel
theorem dX9_isOn_41 : decode cX9_isOn 41 = .ok (.iaload, 1) := by decide +kernel
theorem dX9_isOn_42 : decode cX9_isOn 42 = .ok (.iload 5, 2) := by decide +kernel
theorem dX9_isOn_44 : decode cX9_isOn 44 = .ok (.imul, 1) := by decide +kernel
theorem dX9_isOn_45 : decode cX9_isOn 45 = .ok (.iadd, 1) := by decide +kernel
theorem dX9_isOn_46 : decode cX9_isOn 46 = .ok (.aload_n 0, 1) := by decide +kernel
theorem dX9_isOn_47 : decode cX9_isOn 47 = .ok (.getfield 35, 3) := by decide +kernel
theorem dX9_isOn_50 : decode cX9_isOn 50 = .ok (.iload 6, 2) := by decide +kernel
theorem dX9_isOn_52 : decode cX9_isOn 52 = .ok (.iconst 3, 1) := by decide +kernel
theorem dX9_isOn_53 : decode cX9_isOn 53 = .ok (.iadd, 1) := by decide +kernel
theorem dX9_isOn_54 : decode cX9_isOn 54 = .ok (.iaload, 1) := by decide +kernel
theorem dX9_isOn_55 : decode cX9_isOn 55 = .ok (.if_icmp .ne 7, 3) := by decide +kernel
theorem dX9_isOn_58 : decode cX9_isOn 58 = .ok (.iconst 1, 1) := by decide +kernel
theorem dX9_isOn_59 : decode cX9_isOn 59 = .ok (.goto 4, 3) := by decide +kernel
theorem dX9_isOn_62 : decode cX9_isOn 62 = .ok (.iconst 0, 1) := by decide +kernel
theorem dX9_isOn_63 : decode cX9_isOn 63 = .ok (.ireturn, 1) := by decide +kernel
set_option maxRecDepth 20000 in
theorem ggX9_isCorner_X9_isOn : GoodIn wsX9_isCorner wsX9_isOn := goodIn_r _ [14, 5, 26, 27, 28, 29, 30, 31, 32, 33, 34, 35, 36, 37, 38, 39, 40, 41, 42, 43, 44, 45, 46, 47, 48, 49] (by decide +kernel) (by decide +kernel)
set_option maxRecDepth 20000 in
theorem gX9_isCorner_X9_isOn : GoodIn wsX9_isCorner (wsV RX9 120 RX9 yX9_isOn wsX9_isOn) := goodIn_app (goodIn_of _ (by decide +kernel)) ggX9_isCorner_X9_isOn
set_option maxRecDepth 20000 in
theorem ggX9_isCorner_X9_square : GoodIn wsX9_isCorner wsX9_square := goodIn_r _ [18, 19, 20, 21, 13, 22, 6, 7, 8, 23, 24, 25, 26, 27, 28, 29, 30, 31, 32, 33, 34, 35, 36, 37, 38, 39, 40, 41, 42, 43, 44, 45, 46, 47, 48, 49] (by decide +kernel) (by decide +kernel)
set_option maxRecDepth 20000 in
theorem gX9_isCorner_X9_square : GoodIn wsX9_isCorner (wsV RX9 109 RX9 yX9_square wsX9_square) := goodIn_app (goodIn_of _ (by decide +kernel)) ggX9_isCorner_X9_square
theorem dX9_isCorner_0 : decode cX9_isCorner 0 = .ok (.bipush (-4), 2) := by decide +kernel
theorem dX9_isCorner_2 : decode cX9_isCorner 2 = .ok (.istore_n 3, 1) := by decide +kernel
theorem dX9_isCorner_3 : decode cX9_isCorner 3 = .ok (.iconst 0, 1) := by decide +kernel
theorem dX9_isCorner_4 : decode cX9_isCorner 4 = .ok (.istore 4, 2) := by decide +kernel
theorem dX9_isCorner_6 : decode cX9_isCorner 6 = .ok (.iconst 0, 1) := by decide +kernel
theorem dX9_isCorner_7 : decode cX9_isCorner 7 = .ok (.istore 5, 2) := by decide +kernel
theorem dX9_isCorner_9 : decode cX9_isCorner 9 = .ok (.iconst 0, 1) := by decide +kernel
theorem dX9_isCorner_10 : decode cX9_isCorner 10 = .ok (.istore 6, 2) := by decide +kernel
theorem dX9_isCorner_12 : decode cX9_isCorner 12 = .ok (.iconst 0, 1) := by decide +kernel
theorem dX9_isCorner_13 : decode cX9_isCorner 13 = .ok (.istore 7, 2) := by decide +kernel
theorem dX9_isCorner_15 : decode cX9_isCorner 15 = .ok (.iconst 0, 1) := by decide +kernel
theorem dX9_isCorner_16 : decode cX9_isCorner 16 = .ok (.istore 8, 2) := by decide +kernel
theorem dX9_isCorner_18 : decode cX9_isCorner 18 = .ok (.iload 8, 2) := by decide +kernel
theorem dX9_isCorner_20 : decode cX9_isCorner 20 = .ok (.aload_n 0, 1) := by decide +kernel
theorem dX9_isCorner_21 : decode cX9_isCorner 21 = .ok (.getfield 32, 3) := by decide +kernel
theorem dX9_isCorner_24 : decode cX9_isCorner 24 = .ok (.iload_n 1, 1) := by decide +kernel
theorem dX9_isCorner_25 : decode cX9_isCorner 25 = .ok (.iaload, 1) := by decide +kernel
theorem dX9_isCorner_26 : decode cX9_isCorner 26 = .ok (.if_icmp .ge 191, 3) := by decide +kernel
theorem dX9_isCorner_29 : decode cX9_isCorner 29 = .ok (.aload_n 0, 1) := by decide +kernel
theorem dX9_isCorner_30 : decode cX9_isCorner 30 = .ok (.iload_n 1, 1) := by decide +kernel
theorem dX9_isCorner_31 : decode cX9_isCorner 31 = .ok (.iload 8, 2) := by decide +kernel
theorem dX9_isCorner_33 : decode cX9_isCorner 33 = .ok (.aload_n 0, 1) := by decide +kernel
theorem dX9_isCorner_34 : decode cX9_isCorner 34 = .ok (.getfield 44, 3) := by decide +kernel
theorem dX9_isCorner_37 : decode cX9_isCorner 37 = .ok (.iload_n 2, 1) := by decide +kernel
theorem dX9_isCorner_38 : decode cX9_isCorner 38 = .ok (.iaload, 1) := by decide +kernel
theorem dX9_isCorner_39 : decode cX9_isCorner 39 = .ok (.aload_n 0, 1) := by decide +kernel
theorem dX9_isCorner_40 : decode cX9_isCorner 40 = .ok (.getfield 47, 3) := by decide +kernel
theorem dX9_isCorner_43 : decode cX9_isCorner 43 = .ok (.iload_n 2, 1) := by decide +kernel
theorem dX9_isCorner_44 : decode cX9_isCorner 44 = .ok (.iaload, 1) := by decide +kernel
theorem dX9_isCorner_45 : decode cX9_isCorner 45 = .ok (.aload_n 0, 1) := by decide +kernel
theorem dX9_isCorner_46 : decode cX9_isCorner 46 = .ok (.getfield 50, 3) := by decide +kernel
theorem dX9_isCorner_49 : decode cX9_isCorner 49 = .ok (.iload_n 2, 1) := by decide +kernel
theorem dX9_isCorner_50 : decode cX9_isCorner 50 = .ok (.iaload, 1) := by decide +kernel
theorem dX9_isCorner_51 : decode cX9_isCorner 51 = .ok (.invokevirtual 120, 3) := by decide +kernel
theorem dX9_isCorner_54 : decode cX9_isCorner 54 = .ok (.ifCond .eq 157, 3) := by decide +kernel
theorem dX9_isCorner_57 : decode cX9_isCorner 57 = .ok (.sipush 360, 3) := by decide +kernel
theorem dX9_isCorner_60 : decode cX9_isCorner 60 = .ok (.iload_n 1, 1) := by decide +kernel
theorem dX9_isCorner_61 : decode cX9_isCorner 61 = .ok (.imul, 1) := by decide +kernel
theorem dX9_isCorner_62 : decode cX9_isCorner 62 = .ok (.iconst 4, 1) := by decide +kernel
theorem dX9_isCorner_63 : decode cX9_isCorner 63 = .ok (.iload 8, 2) := by decide +kernel
theorem dX9_isCorner_65 : decode cX9_isCorner 65 = .ok (.imul, 1) := by decide +kernel
theorem dX9_isCorner_66 : decode cX9_isCorner 66 = .ok (.iadd, 1) := by decide +kernel
theorem dX9_isCorner_67 : decode cX9_isCorner 67 = .ok (.istore 9, 2) := by decide +kernel
theorem dX9_isCorner_69 : decode cX9_isCorner 69 = .ok (.iload_n 3, 1) := by decide +kernel
theorem dX9_isCorner_70 : decode cX9_isCorner 70 = .ok (.bipush (-4), 2) := by decide +kernel
theorem dX9_isCorner_72 : decode cX9_isCorner 72 = .ok (.if_icmp .ne 9, 3) := by decide +kernel
theorem dX9_isCorner_75 : decode cX9_isCorner 75 = .ok (.iload 9, 2) := by decide +kernel
theorem dX9_isCorner_77 : decode cX9_isCorner 77 = .ok (.istore_n 3, 1) := by decide +kernel
theorem dX9_isCorner_78 : decode cX9_isCorner 78 = .ok (.goto 133, 3) := by decide +kernel
theorem dX9_isCorner_81 : decode cX9_isCorner 81 = .ok (.iload 4, 2) := by decide +kernel
theorem dX9_isCorner_83 : decode cX9_isCorner 83 = .ok (.ifCond .ne 87, 3) := by decide +kernel
theorem dX9_isCorner_86 : decode cX9_isCorner 86 = .ok (.iconst 1, 1) := by decide +kernel
theorem dX9_isCorner_87 : decode cX9_isCorner 87 = .ok (.istore 4, 2) := by decide +kernel
theorem dX9_isCorner_89 : decode cX9_isCorner 89 = .ok (.aload_n 0, 1) := by decide +kernel
theorem dX9_isCorner_90 : decode cX9_isCorner 90 = .ok (.aload_n 0, 1) := by decide +kernel
theorem dX9_isCorner_91 : decode cX9_isCorner 91 = .ok (.getfield 35, 3) := by decide +kernel
theorem dX9_isCorner_94 : decode cX9_isCorner 94 = .ok (.iload_n 3, 1) := by decide +kernel
theorem dX9_isCorner_95 : decode cX9_isCorner 95 = .ok (.iaload, 1) := by decide +kernel
theorem dX9_isCorner_96 : decode cX9_isCorner 96 = .ok (.aload_n 0, 1) := by decide +kernel
theorem dX9_isCorner_97 : decode cX9_isCorner 97 = .ok (.getfield 35, 3) := by decide +kernel
theorem dX9_isCorner_100 : decode cX9_isCorner 100 = .ok (.iload_n 3, 1) := by decide +kernel
theorem dX9_isCorner_101 : decode cX9_isCorner 101 = .ok (.iconst 1, 1) := by decide +kernel
theorem dX9_isCorner_102 : decode cX9_isCorner 102 = .ok (.iadd, 1) := by decide +kernel
theorem dX9_isCorner_103 : decode cX9_isCorner 103 = .ok (.iaload, 1) := by decide +kernel
theorem dX9_isCorner_104 : decode cX9_isCorner 104 = .ok (.aload_n 0, 1) := by decide +kernel
theorem dX9_isCorner_105 : decode cX9_isCorner 105 = .ok (.getfield 35, 3) := by decide +kernel
theorem dX9_isCorner_108 : decode cX9_isCorner 108 = .ok (.iload_n 3, 1) := by decide +kernel
theorem dX9_isCorner_109 : decode cX9_isCorner 109 = .ok (.iconst 2, 1) := by decide +kernel
theorem dX9_isCorner_110 : decode cX9_isCorner 110 = .ok (.iadd, 1) := by decide +kernel
theorem dX9_isCorner_111 : decode cX9_isCorner 111 = .ok (.iaload, 1) := by decide +kernel
theorem dX9_isCorner_112 : decode cX9_isCorner 112 = .ok (.aload_n 0, 1) := by decide +kernel
theorem dX9_isCorner_113 : decode cX9_isCorner 113 = .ok (.getfield 35, 3) := by decide +kernel
theorem dX9_isCorner_116 : decode cX9_isCorner 116 = .ok (.iload 9, 2) := by decide +kernel
theorem dX9_isCorner_118 : decode cX9_isCorner 118 = .ok (.iaload, 1) := by decide +kernel
theorem dX9_isCorner_119 : decode cX9_isCorner 119 = .ok (.aload_n 0, 1) := by decide +kernel
theorem dX9_isCorner_120 : decode cX9_isCorner 120 = .ok (.getfield 35, 3) := by decide +kernel
theorem dX9_isCorner_123 : decode cX9_isCorner 123 = .ok (.iload 9, 2) := by decide +kernel
theorem dX9_isCorner_125 : decode cX9_isCorner 125 = .ok (.iconst 1, 1) := by decide +kernel
theorem dX9_isCorner_126 : decode cX9_isCorner 126 = .ok (.iadd, 1) := by decide +kernel
theorem dX9_isCorner_127 : decode cX9_isCorner 127 = .ok (.iaload, 1) := by decide +kernel
theorem dX9_isCorner_128 : decode cX9_isCorner 128 = .ok (.aload_n 0, 1) := by decide +kernel
theorem dX9_isCorner_129 : decode cX9_isCorner 129 = .ok (.getfield 35, 3) := by decide +kernel
theorem dX9_isCorner_132 : decode cX9_isCorner 132 = .ok (.iload 9, 2) := by decide +kernel
theorem dX9_isCorner_134 : decode cX9_isCorner 134 = .ok (.iconst 2, 1) := by decide +kernel
theorem dX9_isCorner_135 : decode cX9_isCorner 135 = .ok (.iadd, 1) := by decide +kernel
theorem dX9_isCorner_136 : decode cX9_isCorner 136 = .ok (.iaload, 1) := by decide +kernel
theorem dX9_isCorner_137 : decode cX9_isCorner 137 = .ok (.invokevirtual 109, 3) := by decide +kernel
theorem dX9_isCorner_140 : decode cX9_isCorner 140 = .ok (.aload_n 0, 1) := by decide +kernel
theorem dX9_isCorner_141 : decode cX9_isCorner 141 = .ok (.getfield 85, 3) := by decide +kernel
theorem dX9_isCorner_144 : decode cX9_isCorner 144 = .ok (.istore 5, 2) := by decide +kernel
theorem dX9_isCorner_146 : decode cX9_isCorner 146 = .ok (.aload_n 0, 1) := by decide +kernel
theorem dX9_isCorner_147 : decode cX9_isCorner 147 = .ok (.getfield 88, 3) := by decide +kernel
theorem dX9_isCorner_150 : decode cX9_isCorner 150 = .ok (.istore 6, 2) := by decide +kernel
theorem dX9_isCorner_152 : decode cX9_isCorner 152 = .ok (.aload_n 0, 1) := by decide +kernel
theorem dX9_isCorner_153 : decode cX9_isCorner 153 = .ok (.getfield 91, 3) := by decide +kernel
theorem dX9_isCorner_156 : decode cX9_isCorner 156 = .ok (.istore 7, 2) := by decide +kernel
theorem dX9_isCorner_158 : decode cX9_isCorner 158 = .ok (.aload_n 0, 1) := by decide +kernel
theorem dX9_isCorner_159 : decode cX9_isCorner 159 = .ok (.getfield 23, 3) := by decide +kernel
theorem dX9_isCorner_162 : decode cX9_isCorner 162 = .ok (.iload_n 1, 1) := by decide +kernel
theorem dX9_isCorner_163 : decode cX9_isCorner 163 = .ok (.iaload, 1) := by decide +kernel
theorem dX9_isCorner_164 : decode cX9_isCorner 164 = .ok (.iconst 2, 1) := by decide +kernel
theorem dX9_isCorner_165 : decode cX9_isCorner 165 = .ok (.if_icmp .ne 46, 3) := by decide +kernel
theorem dX9_isCorner_168 : decode cX9_isCorner 168 = .ok (.iconst 1, 1) := by decide +kernel
theorem dX9_isCorner_169 : decode cX9_isCorner 169 = .ok (.ireturn, 1) := by decide +kernel
theorem dX9_isCorner_170 : decode cX9_isCorner 170 = .ok (.iload 5, 2) := by decide +kernel
theorem dX9_isCorner_172 : decode cX9_isCorner 172 = .ok (.aload_n 0, 1) := by decide +kernel
theorem dX9_isCorner_173 : decode cX9_isCorner 173 = .ok (.getfield 35, 3) := by decide +kernel
theorem dX9_isCorner_176 : decode cX9_isCorner 176 = .ok (.iload 9, 2) := by decide +kernel
theorem dX9_isCorner_178 : decode cX9_isCorner 178 = .ok (.iaload, 1) := by decide +kernel
theorem dX9_isCorner_179 : decode cX9_isCorner 179 = .ok (.imul, 1) := by decide +kernel
theorem dX9_isCorner_180 : decode cX9_isCorner 180 = .ok (.iload 6, 2) := by decide +kernel
theorem dX9_isCorner_182 : decode cX9_isCorner 182 = .ok (.aload_n 0, 1) := by decide +kernel
theorem dX9_isCorner_183 : decode cX9_isCorner 183 = .ok (.getfield 35, 3) := by decide +kernel
theorem dX9_isCorner_186 : decode cX9_isCorner 186 = .ok (.iload 9, 2) := by decide +kernel
theorem dX9_isCorner_188 : decode cX9_isCorner 188 = .ok (.iconst 1, 1) := by decide +kernel
theorem dX9_isCorner_189 : decode cX9_isCorner 189 = .ok (.iadd, 1) := by decide +kernel
theorem dX9_isCorner_190 : decode cX9_isCorner 190 = .ok (.iaload, 1) := by decide +kernel
theorem dX9_isCorner_191 : decode cX9_isCorner 191 = .ok (.imul, 1) := by decide +kernel
theorem dX9_isCorner_192 : decode cX9_isCorner 192 = .ok (.iadd, 1) := by decide +kernel
theorem dX9_isCorner_193 : decode cX9_isCorner 193 = .ok (.iload 7, 2) := by decide +kernel
theorem dX9_isCorner_195 : decode cX9_isCorner 195 = .ok (.aload_n 0, 1) := by decide +kernel
theorem dX9_isCorner_196 : decode cX9_isCorner 196 = .ok (.getfield 35, 3) := by decide +kernel
theorem dX9_isCorner_199 : decode cX9_isCorner 199 = .ok (.iload 9, 2) := by decide +kernel
theorem dX9_isCorner_201 : decode cX9_isCorner 201 = .ok (.iconst 2, 1) := by decide +kernel
theorem dX9_isCorner_202 : decode cX9_isCorner 202 = .ok (.iadd, 1) := by decide +kernel
theorem dX9_isCorner_203 : decode cX9_isCorner 203 = .ok (.iaload, 1) := by decide +kernel
theorem dX9_isCorner_204 : decode cX9_isCorner 204 = .ok (.imul, 1) := by decide +kernel
theorem dX9_isCorner_205 : decode cX9_isCorner 205 = .ok (.iadd, 1) := by decide +kernel
theorem dX9_isCorner_206 : decode cX9_isCorner 206 = .ok (.ifCond .eq 5, 3) := by decide +kernel
theorem dX9_isCorner_209 : decode cX9_isCorner 209 = .ok (.iconst 1, 1) := by decide +kernel
theorem dX9_isCorner_210 : decode cX9_isCorner 210 = .ok (.ireturn, 1) := by decide +kernel
theorem dX9_isCorner_211 : decode cX9_isCorner 211 = .ok (.iinc 8 1, 3) := by decide +kernel
theorem dX9_isCorner_214 : decode cX9_isCorner 214 = .ok (.goto (-196), 3) := by decide +kernel
theorem dX9_isCorner_217 : decode cX9_isCorner 217 = .ok (.aload_n 0, 1) := by decide +kernel
theorem dX9_isCorner_218 : decode cX9_isCorner 218 = .ok (.getfield 23, 3) := by decide +kernel
theorem dX9_isCorner_221 : decode cX9_isCorner 221 = .ok (.iload_n 1, 1) := by decide +kernel
theorem dX9_isCorner_222 : decode cX9_isCorner 222 = .ok (.iaload, 1) := by decide +kernel
theorem dX9_isCorner_223 : decode cX9_isCorner 223 = .ok (.ifCond .eq 19, 3) := by decide +kernel
theorem dX9_isCorner_226 : decode cX9_isCorner 226 = .ok (.aload_n 0, 1) := by decide +kernel
theorem dX9_isCorner_227 : decode cX9_isCorner 227 = .ok (.getfield 23, 3) := by decide +kernel
theorem dX9_isCorner_230 : decode cX9_isCorner 230 = .ok (.iload_n 1, 1) := by decide +kernel
theorem dX9_isCorner_231 : decode cX9_isCorner 231 = .ok (.iaload, 1) := by decide +kernel
theorem dX9_isCorner_232 : decode cX9_isCorner 232 = .ok (.iconst 1, 1) := by decide +kernel
theorem dX9_isCorner_233 : decode cX9_isCorner 233 = .ok (.if_icmp .ne 13, 3) := by decide +kernel
theorem dX9_isCorner_236 : decode cX9_isCorner 236 = .ok (.iload_n 3, 1) := by decide +kernel
theorem dX9_isCorner_237 : decode cX9_isCorner 237 = .ok (.bipush (-4), 2) := by decide +kernel
theorem dX9_isCorner_239 : decode cX9_isCorner 239 = .ok (.if_icmp .eq 7, 3) := by decide +kernel
theorem dX9_isCorner_242 : decode cX9_isCorner 242 = .ok (.iconst 1, 1) := by decide +kernel
theorem dX9_isCorner_243 : decode cX9_isCorner 243 = .ok (.goto 4, 3) := by decide +kernel
theorem dX9_isCorner_246 : decode cX9_isCorner 246 = .ok (.iconst 0, 1) := by decide +kernel
theorem dX9_isCorner_247 : decode cX9_isCorner 247 = .ok (.ireturn, 1) := by decide +kernel
set_option maxRecDepth 20000 in
theorem ggX9_made_X9_filled : GoodIn wsX9_made wsX9_filled := goodIn_p _ [19, 23, 26, 30, 34, 38, 42] rfl (by decide +kernel)
set_option maxRecDepth 20000 in
theorem gX9_made_X9_filled : GoodIn wsX9_made (wsV RX9 127 RX9 yX9_filled wsX9_filled) := goodIn_app (goodIn_of _ (by decide +kernel)) ggX9_made_X9_filled
set_option maxRecDepth 20000 in
theorem ggX9_made_X9_square : GoodIn wsX9_made wsX9_square := goodIn_r _ [34, 20, 21, 22, 18, 23, 9, 10, 11, 24, 25, 26, 64, 65, 66, 67, 68, 69, 70, 71, 72, 73, 74, 75, 76, 77, 78, 79, 80, 81, 82, 83, 84, 85, 86, 87] (by decide +kernel) (by decide +kernel)
set_option maxRecDepth 20000 in
theorem gX9_made_X9_square : GoodIn wsX9_made (wsV RX9 109 RX9 yX9_square wsX9_square) := goodIn_app (goodIn_of _ (by decide +kernel)) ggX9_made_X9_square
set_option maxRecDepth 20000 in
theorem ggX9_made_X9_bothSides : GoodIn wsX9_made wsX9_bothSides := goodIn_r _ [46, 9, 10, 11, 47, 48, 49, 18, 50, 4, 3, 51, 39, 40, 41, 42, 5, 6, 7, 52, 53, 54, 55, 64, 65, 66, 67, 68, 69, 70, 71, 72, 73, 74, 75, 76, 77, 78, 79, 80, 81, 82, 83, 84, 85, 86, 87] (by decide +kernel) (by decide +kernel)
set_option maxRecDepth 20000 in
theorem gX9_made_X9_bothSides : GoodIn wsX9_made (wsV RX9 130 RX9 yX9_bothSides wsX9_bothSides) := goodIn_app (goodIn_of _ (by decide +kernel)) ggX9_made_X9_bothSides
set_option maxRecDepth 20000 in
theorem ggX9_made_X9_planeOf : GoodIn wsX9_made wsX9_planeOf := goodIn_r _ [30, 5, 6, 7, 31, 32, 33, 18, 34, 20, 21, 22, 23, 9, 10, 11, 24, 25, 26, 64, 65, 66, 67, 68, 69, 70, 71, 72, 73, 74, 75, 76, 77, 78, 79, 80, 81, 82, 83, 84, 85, 86, 87] (by decide +kernel) (by decide +kernel)
set_option maxRecDepth 20000 in
theorem gX9_made_X9_planeOf : GoodIn wsX9_made (wsV RX9 113 RX9 yX9_planeOf wsX9_planeOf) := goodIn_app (goodIn_of _ (by decide +kernel)) ggX9_made_X9_planeOf
set_option maxRecDepth 20000 in
theorem ggX9_made_X9_isNought : GoodIn wsX9_made wsX9_isNought := goodIn_r _ [38, 9, 10, 11, 64, 65, 66, 67, 68, 69, 70, 71, 72, 73, 74, 75, 76, 77, 78, 79, 80, 81, 82, 83, 84, 85, 86, 87] (by decide +kernel) (by decide +kernel)
set_option maxRecDepth 20000 in
theorem gX9_made_X9_isNought : GoodIn wsX9_made (wsV RX9 116 RX9 yX9_isNought wsX9_isNought) := goodIn_app (goodIn_of _ (by decide +kernel)) ggX9_made_X9_isNought
set_option maxRecDepth 20000 in
theorem ggX9_made_X9_step : GoodIn wsX9_made wsX9_step := goodIn_r _ [23, 9, 10, 11, 24, 25, 18, 26, 64, 65, 66, 67, 68, 69, 70, 71, 72, 73, 74, 75, 76, 77, 78, 79, 80, 81, 82, 83, 84, 85, 86, 87] (by decide +kernel) (by decide +kernel)
set_option maxRecDepth 20000 in
theorem gX9_made_X9_step : GoodIn wsX9_made (wsV RX9 94 RX9 yX9_step wsX9_step) := goodIn_app (goodIn_of _ (by decide +kernel)) ggX9_made_X9_step
set_option maxRecDepth 20000 in
theorem ggX9_made_X9_side : GoodIn wsX9_made wsX9_side := goodIn_r _ [50, 4, 3, 51, 9, 10, 11, 39, 40, 41, 18, 42, 5, 6, 7, 52, 53, 54, 55, 64, 65, 66, 67, 68, 69, 70, 71, 72, 73, 74, 75, 76, 77, 78, 79, 80, 81, 82, 83, 84, 85, 86, 87] (by decide +kernel) (by decide +kernel)
set_option maxRecDepth 20000 in
theorem gX9_made_X9_side : GoodIn wsX9_made (wsV RX9 105 RX9 yX9_side wsX9_side) := goodIn_app (goodIn_of _ (by decide +kernel)) ggX9_made_X9_side
set_option maxRecDepth 20000 in
theorem ggX9_made_X9_isCorner : GoodIn wsX9_made wsX9_isCorner := goodIn_p _ [59, 63, 34, 23, 26] rfl (by decide +kernel)
set_option maxRecDepth 20000 in
theorem gX9_made_X9_isCorner : GoodIn wsX9_made (wsV RX9 133 RX9 yX9_isCorner wsX9_isCorner) := goodIn_app (goodIn_of _ (by decide +kernel)) ggX9_made_X9_isCorner
theorem dX9_made_0 : decode cX9_made 0 = .ok (.aload_n 0, 1) := by decide +kernel
theorem dX9_made_1 : decode cX9_made 1 = .ok (.getfield 124, 3) := by decide +kernel
theorem dX9_made_4 : decode cX9_made 4 = .ok (.istore_n 2, 1) := by decide +kernel
theorem dX9_made_5 : decode cX9_made 5 = .ok (.aload_n 0, 1) := by decide +kernel
theorem dX9_made_6 : decode cX9_made 6 = .ok (.getfield 23, 3) := by decide +kernel
theorem dX9_made_9 : decode cX9_made 9 = .ok (.iload_n 2, 1) := by decide +kernel
theorem dX9_made_10 : decode cX9_made 10 = .ok (.aload_n 0, 1) := by decide +kernel
theorem dX9_made_11 : decode cX9_made 11 = .ok (.iload_n 2, 1) := by decide +kernel
theorem dX9_made_12 : decode cX9_made 12 = .ok (.invokevirtual 127, 3) := by decide +kernel
theorem dX9_made_15 : decode cX9_made 15 = .ok (.iastore, 1) := by decide +kernel
theorem dX9_made_16 : decode cX9_made 16 = .ok (.aload_n 0, 1) := by decide +kernel
theorem dX9_made_17 : decode cX9_made 17 = .ok (.getfield 32, 3) := by decide +kernel
theorem dX9_made_20 : decode cX9_made 20 = .ok (.iload_n 2, 1) := by decide +kernel
theorem dX9_made_21 : decode cX9_made 21 = .ok (.iconst 0, 1) := by decide +kernel
theorem dX9_made_22 : decode cX9_made 22 = .ok (.iastore, 1) := by decide +kernel
theorem dX9_made_23 : decode cX9_made 23 = .ok (.iconst 0, 1) := by decide +kernel
theorem dX9_made_24 : decode cX9_made 24 = .ok (.istore_n 3, 1) := by decide +kernel
theorem dX9_made_25 : decode cX9_made 25 = .ok (.iload_n 3, 1) := by decide +kernel
theorem dX9_made_26 : decode cX9_made 26 = .ok (.aload_n 0, 1) := by decide +kernel
theorem dX9_made_27 : decode cX9_made 27 = .ok (.getfield 74, 3) := by decide +kernel
theorem dX9_made_30 : decode cX9_made 30 = .ok (.if_icmp .ge 182, 3) := by decide +kernel
theorem dX9_made_33 : decode cX9_made 33 = .ok (.aload_n 0, 1) := by decide +kernel
theorem dX9_made_34 : decode cX9_made 34 = .ok (.getfield 23, 3) := by decide +kernel
theorem dX9_made_37 : decode cX9_made 37 = .ok (.iload_n 2, 1) := by decide +kernel
theorem dX9_made_38 : decode cX9_made 38 = .ok (.iaload, 1) := by decide +kernel
theorem dX9_made_39 : decode cX9_made 39 = .ok (.iconst 1, 1) := by decide +kernel
theorem dX9_made_40 : decode cX9_made 40 = .ok (.if_icmp .le 172, 3) := by decide +kernel
theorem dX9_made_43 : decode cX9_made 43 = .ok (.iload_n 3, 1) := by decide +kernel
theorem dX9_made_44 : decode cX9_made 44 = .ok (.iconst 1, 1) := by decide +kernel
theorem dX9_made_45 : decode cX9_made 45 = .ok (.iadd, 1) := by decide +kernel
theorem dX9_made_46 : decode cX9_made 46 = .ok (.istore 4, 2) := by decide +kernel
theorem dX9_made_48 : decode cX9_made 48 = .ok (.iload 4, 2) := by decide +kernel
theorem dX9_made_50 : decode cX9_made 50 = .ok (.aload_n 0, 1) := by decide +kernel
theorem dX9_made_51 : decode cX9_made 51 = .ok (.getfield 74, 3) := by decide +kernel
theorem dX9_made_54 : decode cX9_made 54 = .ok (.if_icmp .ge 152, 3) := by decide +kernel
theorem dX9_made_57 : decode cX9_made 57 = .ok (.aload_n 0, 1) := by decide +kernel
theorem dX9_made_58 : decode cX9_made 58 = .ok (.getfield 23, 3) := by decide +kernel
theorem dX9_made_61 : decode cX9_made 61 = .ok (.iload_n 2, 1) := by decide +kernel
theorem dX9_made_62 : decode cX9_made 62 = .ok (.iaload, 1) := by decide +kernel
theorem dX9_made_63 : decode cX9_made 63 = .ok (.iconst 2, 1) := by decide +kernel
theorem dX9_made_64 : decode cX9_made 64 = .ok (.if_icmp .ne 83, 3) := by decide +kernel
theorem dX9_made_67 : decode cX9_made 67 = .ok (.aload_n 0, 1) := by decide +kernel
theorem dX9_made_68 : decode cX9_made 68 = .ok (.aload_n 0, 1) := by decide +kernel
theorem dX9_made_69 : decode cX9_made 69 = .ok (.getfield 44, 3) := by decide +kernel
theorem dX9_made_72 : decode cX9_made 72 = .ok (.iload 4, 2) := by decide +kernel
theorem dX9_made_74 : decode cX9_made 74 = .ok (.iaload, 1) := by decide +kernel
theorem dX9_made_75 : decode cX9_made 75 = .ok (.aload_n 0, 1) := by decide +kernel
theorem dX9_made_76 : decode cX9_made 76 = .ok (.getfield 44, 3) := by decide +kernel
theorem dX9_made_79 : decode cX9_made 79 = .ok (.iload_n 3, 1) := by decide +kernel
theorem dX9_made_80 : decode cX9_made 80 = .ok (.iaload, 1) := by decide +kernel
theorem dX9_made_81 : decode cX9_made 81 = .ok (.isub, 1) := by decide +kernel
theorem dX9_made_82 : decode cX9_made 82 = .ok (.aload_n 0, 1) := by decide +kernel
theorem dX9_made_83 : decode cX9_made 83 = .ok (.getfield 47, 3) := by decide +kernel
theorem dX9_made_86 : decode cX9_made 86 = .ok (.iload 4, 2) := by decide +kernel
theorem dX9_made_88 : decode cX9_made 88 = .ok (.iaload, 1) := by decide +kernel
theorem dX9_made_89 : decode cX9_made 89 = .ok (.aload_n 0, 1) := by decide +kernel
theorem dX9_made_90 : decode cX9_made 90 = .ok (.getfield 47, 3) := by decide +kernel
theorem dX9_made_93 : decode cX9_made 93 = .ok (.iload_n 3, 1) := by decide +kernel
theorem dX9_made_94 : decode cX9_made 94 = .ok (.iaload, 1) := by decide +kernel
theorem dX9_made_95 : decode cX9_made 95 = .ok (.isub, 1) := by decide +kernel
theorem dX9_made_96 : decode cX9_made 96 = .ok (.aload_n 0, 1) := by decide +kernel
theorem dX9_made_97 : decode cX9_made 97 = .ok (.getfield 50, 3) := by decide +kernel
theorem dX9_made_100 : decode cX9_made 100 = .ok (.iload 4, 2) := by decide +kernel
theorem dX9_made_102 : decode cX9_made 102 = .ok (.iaload, 1) := by decide +kernel
theorem dX9_made_103 : decode cX9_made 103 = .ok (.aload_n 0, 1) := by decide +kernel
theorem dX9_made_104 : decode cX9_made 104 = .ok (.getfield 50, 3) := by decide +kernel
theorem dX9_made_107 : decode cX9_made 107 = .ok (.iload_n 3, 1) := by decide +kernel
theorem dX9_made_108 : decode cX9_made 108 = .ok (.iaload, 1) := by decide +kernel
theorem dX9_made_109 : decode cX9_made 109 = .ok (.isub, 1) := by decide +kernel
theorem dX9_made_110 : decode cX9_made 110 = .ok (.aload_n 0, 1) := by decide +kernel
theorem dX9_made_111 : decode cX9_made 111 = .ok (.getfield 41, 3) := by decide +kernel
theorem dX9_made_114 : decode cX9_made 114 = .ok (.iconst 4, 1) := by decide +kernel
theorem dX9_made_115 : decode cX9_made 115 = .ok (.iload_n 2, 1) := by decide +kernel
theorem dX9_made_116 : decode cX9_made 116 = .ok (.imul, 1) := by decide +kernel
theorem dX9_made_117 : decode cX9_made 117 = .ok (.iaload, 1) := by decide +kernel
theorem dX9_made_118 : decode cX9_made 118 = .ok (.aload_n 0, 1) := by decide +kernel
theorem dX9_made_119 : decode cX9_made 119 = .ok (.getfield 41, 3) := by decide +kernel
theorem dX9_made_122 : decode cX9_made 122 = .ok (.iconst 4, 1) := by decide +kernel
theorem dX9_made_123 : decode cX9_made 123 = .ok (.iload_n 2, 1) := by decide +kernel
theorem dX9_made_124 : decode cX9_made 124 = .ok (.imul, 1) := by decide +kernel
theorem dX9_made_125 : decode cX9_made 125 = .ok (.iconst 1, 1) := by decide +kernel
theorem dX9_made_126 : decode cX9_made 126 = .ok (.iadd, 1) := by decide +kernel
theorem dX9_made_127 : decode cX9_made 127 = .ok (.iaload, 1) := by decide +kernel
theorem dX9_made_128 : decode cX9_made 128 = .ok (.aload_n 0, 1) := by decide +kernel
theorem dX9_made_129 : decode cX9_made 129 = .ok (.getfield 41, 3) := by decide +kernel
theorem dX9_made_132 : decode cX9_made 132 = .ok (.iconst 4, 1) := by decide +kernel
theorem dX9_made_133 : decode cX9_made 133 = .ok (.iload_n 2, 1) := by decide +kernel
theorem dX9_made_134 : decode cX9_made 134 = .ok (.imul, 1) := by decide +kernel
theorem dX9_made_135 : decode cX9_made 135 = .ok (.iconst 2, 1) := by decide +kernel
theorem dX9_made_136 : decode cX9_made 136 = .ok (.iadd, 1) := by decide +kernel
theorem dX9_made_137 : decode cX9_made 137 = .ok (.iaload, 1) := by decide +kernel
theorem dX9_made_138 : decode cX9_made 138 = .ok (.invokevirtual 109, 3) := by decide +kernel
theorem dX9_made_141 : decode cX9_made 141 = .ok (.aload_n 0, 1) := by decide +kernel
theorem dX9_made_142 : decode cX9_made 142 = .ok (.iload_n 2, 1) := by decide +kernel
theorem dX9_made_143 : decode cX9_made 143 = .ok (.iload_n 3, 1) := by decide +kernel
theorem dX9_made_144 : decode cX9_made 144 = .ok (.invokevirtual 130, 3) := by decide +kernel
theorem dX9_made_147 : decode cX9_made 147 = .ok (.iload 4, 2) := by decide +kernel
theorem dX9_made_149 : decode cX9_made 149 = .ok (.iconst 1, 1) := by decide +kernel
theorem dX9_made_150 : decode cX9_made 150 = .ok (.iadd, 1) := by decide +kernel
theorem dX9_made_151 : decode cX9_made 151 = .ok (.istore 5, 2) := by decide +kernel
theorem dX9_made_153 : decode cX9_made 153 = .ok (.iload 5, 2) := by decide +kernel
theorem dX9_made_155 : decode cX9_made 155 = .ok (.aload_n 0, 1) := by decide +kernel
theorem dX9_made_156 : decode cX9_made 156 = .ok (.getfield 74, 3) := by decide +kernel
theorem dX9_made_159 : decode cX9_made 159 = .ok (.if_icmp .ge 41, 3) := by decide +kernel
theorem dX9_made_162 : decode cX9_made 162 = .ok (.aload_n 0, 1) := by decide +kernel
theorem dX9_made_163 : decode cX9_made 163 = .ok (.getfield 23, 3) := by decide +kernel
theorem dX9_made_166 : decode cX9_made 166 = .ok (.iload_n 2, 1) := by decide +kernel
theorem dX9_made_167 : decode cX9_made 167 = .ok (.iaload, 1) := by decide +kernel
theorem dX9_made_168 : decode cX9_made 168 = .ok (.iconst 3, 1) := by decide +kernel
theorem dX9_made_169 : decode cX9_made 169 = .ok (.if_icmp .ne 31, 3) := by decide +kernel
theorem dX9_made_172 : decode cX9_made 172 = .ok (.aload_n 0, 1) := by decide +kernel
theorem dX9_made_173 : decode cX9_made 173 = .ok (.iload_n 3, 1) := by decide +kernel
theorem dX9_made_174 : decode cX9_made 174 = .ok (.iload 4, 2) := by decide +kernel
theorem dX9_made_176 : decode cX9_made 176 = .ok (.iload 5, 2) := by decide +kernel
theorem dX9_made_178 : decode cX9_made 178 = .ok (.invokevirtual 113, 3) := by decide +kernel
theorem dX9_made_181 : decode cX9_made 181 = .ok (.aload_n 0, 1) := by decide +kernel
theorem dX9_made_182 : decode cX9_made 182 = .ok (.invokevirtual 116, 3) := by decide +kernel
theorem dX9_made_185 : decode cX9_made 185 = .ok (.ifCond .ne 9, 3) := by decide +kernel
theorem dX9_made_188 : decode cX9_made 188 = .ok (.aload_n 0, 1) := by decide +kernel
theorem dX9_made_189 : decode cX9_made 189 = .ok (.iload_n 2, 1) := by decide +kernel
theorem dX9_made_190 : decode cX9_made 190 = .ok (.iload_n 3, 1) := by decide +kernel
theorem dX9_made_191 : decode cX9_made 191 = .ok (.invokevirtual 130, 3) := by decide +kernel
theorem dX9_made_194 : decode cX9_made 194 = .ok (.iinc 5 1, 3) := by decide +kernel
theorem dX9_made_197 : decode cX9_made 197 = .ok (.goto (-44), 3) := by decide +kernel
theorem dX9_made_200 : decode cX9_made 200 = .ok (.iinc 4 1, 3) := by decide +kernel
theorem dX9_made_203 : decode cX9_made 203 = .ok (.goto (-155), 3) := by decide +kernel
theorem dX9_made_206 : decode cX9_made 206 = .ok (.iinc 3 1, 3) := by decide +kernel
theorem dX9_made_209 : decode cX9_made 209 = .ok (.goto (-184), 3) := by decide +kernel
theorem dX9_made_212 : decode cX9_made 212 = .ok (.aload_n 0, 1) := by decide +kernel
theorem dX9_made_213 : decode cX9_made 213 = .ok (.getfield 23, 3) := by decide +kernel
theorem dX9_made_216 : decode cX9_made 216 = .ok (.iload_n 2, 1) := by decide +kernel
theorem dX9_made_217 : decode cX9_made 217 = .ok (.iaload, 1) := by decide +kernel
theorem dX9_made_218 : decode cX9_made 218 = .ok (.iconst 1, 1) := by decide +kernel
theorem dX9_made_219 : decode cX9_made 219 = .ok (.if_icmp .ne 105, 3) := by decide +kernel
theorem dX9_made_222 : decode cX9_made 222 = .ok (.aload_n 0, 1) := by decide +kernel
theorem dX9_made_223 : decode cX9_made 223 = .ok (.aload_n 0, 1) := by decide +kernel
theorem dX9_made_224 : decode cX9_made 224 = .ok (.getfield 44, 3) := by decide +kernel
theorem dX9_made_227 : decode cX9_made 227 = .ok (.aload_n 0, 1) := by decide +kernel
theorem dX9_made_228 : decode cX9_made 228 = .ok (.getfield 74, 3) := by decide +kernel
theorem dX9_made_231 : decode cX9_made 231 = .ok (.iconst 1, 1) := by decide +kernel
theorem dX9_made_232 : decode cX9_made 232 = .ok (.isub, 1) := by decide +kernel
theorem dX9_made_233 : decode cX9_made 233 = .ok (.iaload, 1) := by decide +kernel
theorem dX9_made_234 : decode cX9_made 234 = .ok (.aload_n 0, 1) := by decide +kernel
theorem dX9_made_235 : decode cX9_made 235 = .ok (.getfield 44, 3) := by decide +kernel
theorem dX9_made_238 : decode cX9_made 238 = .ok (.iconst 0, 1) := by decide +kernel
theorem dX9_made_239 : decode cX9_made 239 = .ok (.iaload, 1) := by decide +kernel
theorem dX9_made_240 : decode cX9_made 240 = .ok (.isub, 1) := by decide +kernel
theorem dX9_made_241 : decode cX9_made 241 = .ok (.aload_n 0, 1) := by decide +kernel
theorem dX9_made_242 : decode cX9_made 242 = .ok (.getfield 47, 3) := by decide +kernel
theorem dX9_made_245 : decode cX9_made 245 = .ok (.aload_n 0, 1) := by decide +kernel
theorem dX9_made_246 : decode cX9_made 246 = .ok (.getfield 74, 3) := by decide +kernel
theorem dX9_made_249 : decode cX9_made 249 = .ok (.iconst 1, 1) := by decide +kernel
theorem dX9_made_250 : decode cX9_made 250 = .ok (.isub, 1) := by decide +kernel
theorem dX9_made_251 : decode cX9_made 251 = .ok (.iaload, 1) := by decide +kernel
theorem dX9_made_252 : decode cX9_made 252 = .ok (.aload_n 0, 1) := by decide +kernel
theorem dX9_made_253 : decode cX9_made 253 = .ok (.getfield 47, 3) := by decide +kernel
theorem dX9_made_256 : decode cX9_made 256 = .ok (.iconst 0, 1) := by decide +kernel
theorem dX9_made_257 : decode cX9_made 257 = .ok (.iaload, 1) := by decide +kernel
theorem dX9_made_258 : decode cX9_made 258 = .ok (.isub, 1) := by decide +kernel
theorem dX9_made_259 : decode cX9_made 259 = .ok (.aload_n 0, 1) := by decide +kernel
theorem dX9_made_260 : decode cX9_made 260 = .ok (.getfield 50, 3) := by decide +kernel
theorem dX9_made_263 : decode cX9_made 263 = .ok (.aload_n 0, 1) := by decide +kernel
theorem dX9_made_264 : decode cX9_made 264 = .ok (.getfield 74, 3) := by decide +kernel
theorem dX9_made_267 : decode cX9_made 267 = .ok (.iconst 1, 1) := by decide +kernel
theorem dX9_made_268 : decode cX9_made 268 = .ok (.isub, 1) := by decide +kernel
theorem dX9_made_269 : decode cX9_made 269 = .ok (.iaload, 1) := by decide +kernel
theorem dX9_made_270 : decode cX9_made 270 = .ok (.aload_n 0, 1) := by decide +kernel
theorem dX9_made_271 : decode cX9_made 271 = .ok (.getfield 50, 3) := by decide +kernel
theorem dX9_made_274 : decode cX9_made 274 = .ok (.iconst 0, 1) := by decide +kernel
theorem dX9_made_275 : decode cX9_made 275 = .ok (.iaload, 1) := by decide +kernel
theorem dX9_made_276 : decode cX9_made 276 = .ok (.isub, 1) := by decide +kernel
theorem dX9_made_277 : decode cX9_made 277 = .ok (.invokevirtual 94, 3) := by decide +kernel
theorem dX9_made_280 : decode cX9_made 280 = .ok (.aload_n 0, 1) := by decide +kernel
theorem dX9_made_281 : decode cX9_made 281 = .ok (.iload_n 2, 1) := by decide +kernel
theorem dX9_made_282 : decode cX9_made 282 = .ok (.aload_n 0, 1) := by decide +kernel
theorem dX9_made_283 : decode cX9_made 283 = .ok (.getfield 74, 3) := by decide +kernel
theorem dX9_made_286 : decode cX9_made 286 = .ok (.iconst 1, 1) := by decide +kernel
theorem dX9_made_287 : decode cX9_made 287 = .ok (.isub, 1) := by decide +kernel
theorem dX9_made_288 : decode cX9_made 288 = .ok (.invokevirtual 105, 3) := by decide +kernel
theorem dX9_made_291 : decode cX9_made 291 = .ok (.aload_n 0, 1) := by decide +kernel
theorem dX9_made_292 : decode cX9_made 292 = .ok (.aload_n 0, 1) := by decide +kernel
theorem dX9_made_293 : decode cX9_made 293 = .ok (.getfield 85, 3) := by decide +kernel
theorem dX9_made_296 : decode cX9_made 296 = .ok (.ineg, 1) := by decide +kernel
theorem dX9_made_297 : decode cX9_made 297 = .ok (.putfield 85, 3) := by decide +kernel
theorem dX9_made_300 : decode cX9_made 300 = .ok (.aload_n 0, 1) := by decide +kernel
theorem dX9_made_301 : decode cX9_made 301 = .ok (.aload_n 0, 1) := by decide +kernel
theorem dX9_made_302 : decode cX9_made 302 = .ok (.getfield 88, 3) := by decide +kernel
theorem dX9_made_305 : decode cX9_made 305 = .ok (.ineg, 1) := by decide +kernel
theorem dX9_made_306 : decode cX9_made 306 = .ok (.putfield 88, 3) := by decide +kernel
theorem dX9_made_309 : decode cX9_made 309 = .ok (.aload_n 0, 1) := by decide +kernel
theorem dX9_made_310 : decode cX9_made 310 = .ok (.aload_n 0, 1) := by decide +kernel
theorem dX9_made_311 : decode cX9_made 311 = .ok (.getfield 91, 3) := by decide +kernel
theorem dX9_made_314 : decode cX9_made 314 = .ok (.ineg, 1) := by decide +kernel
theorem dX9_made_315 : decode cX9_made 315 = .ok (.putfield 91, 3) := by decide +kernel
theorem dX9_made_318 : decode cX9_made 318 = .ok (.aload_n 0, 1) := by decide +kernel
theorem dX9_made_319 : decode cX9_made 319 = .ok (.iload_n 2, 1) := by decide +kernel
theorem dX9_made_320 : decode cX9_made 320 = .ok (.iconst 0, 1) := by decide +kernel
theorem dX9_made_321 : decode cX9_made 321 = .ok (.invokevirtual 105, 3) := by decide +kernel
theorem dX9_made_324 : decode cX9_made 324 = .ok (.aload_n 0, 1) := by decide +kernel
theorem dX9_made_325 : decode cX9_made 325 = .ok (.getfield 26, 3) := by decide +kernel
theorem dX9_made_328 : decode cX9_made 328 = .ok (.iload_n 2, 1) := by decide +kernel
theorem dX9_made_329 : decode cX9_made 329 = .ok (.iconst 0, 1) := by decide +kernel
theorem dX9_made_330 : decode cX9_made 330 = .ok (.iastore, 1) := by decide +kernel
theorem dX9_made_331 : decode cX9_made 331 = .ok (.iconst 0, 1) := by decide +kernel
theorem dX9_made_332 : decode cX9_made 332 = .ok (.istore_n 3, 1) := by decide +kernel
theorem dX9_made_333 : decode cX9_made 333 = .ok (.iload_n 3, 1) := by decide +kernel
theorem dX9_made_334 : decode cX9_made 334 = .ok (.aload_n 0, 1) := by decide +kernel
theorem dX9_made_335 : decode cX9_made 335 = .ok (.getfield 74, 3) := by decide +kernel
theorem dX9_made_338 : decode cX9_made 338 = .ok (.if_icmp .ge 86, 3) := by decide +kernel
theorem dX9_made_341 : decode cX9_made 341 = .ok (.aload_n 0, 1) := by decide +kernel
theorem dX9_made_342 : decode cX9_made 342 = .ok (.iload_n 2, 1) := by decide +kernel
theorem dX9_made_343 : decode cX9_made 343 = .ok (.iload_n 3, 1) := by decide +kernel
theorem dX9_made_344 : decode cX9_made 344 = .ok (.invokevirtual 133, 3) := by decide +kernel
theorem dX9_made_347 : decode cX9_made 347 = .ok (.ifCond .eq 71, 3) := by decide +kernel
theorem dX9_made_350 : decode cX9_made 350 = .ok (.bipush 120, 2) := by decide +kernel
theorem dX9_made_352 : decode cX9_made 352 = .ok (.iload_n 2, 1) := by decide +kernel
theorem dX9_made_353 : decode cX9_made 353 = .ok (.imul, 1) := by decide +kernel
theorem dX9_made_354 : decode cX9_made 354 = .ok (.iconst 3, 1) := by decide +kernel
theorem dX9_made_355 : decode cX9_made 355 = .ok (.aload_n 0, 1) := by decide +kernel
theorem dX9_made_356 : decode cX9_made 356 = .ok (.getfield 26, 3) := by decide +kernel
theorem dX9_made_359 : decode cX9_made 359 = .ok (.iload_n 2, 1) := by decide +kernel
theorem dX9_made_360 : decode cX9_made 360 = .ok (.iaload, 1) := by decide +kernel
theorem dX9_made_361 : decode cX9_made 361 = .ok (.imul, 1) := by decide +kernel
theorem dX9_made_362 : decode cX9_made 362 = .ok (.iadd, 1) := by decide +kernel
theorem dX9_made_363 : decode cX9_made 363 = .ok (.istore 4, 2) := by decide +kernel
theorem dX9_made_365 : decode cX9_made 365 = .ok (.aload_n 0, 1) := by decide +kernel
theorem dX9_made_366 : decode cX9_made 366 = .ok (.getfield 29, 3) := by decide +kernel
theorem dX9_made_369 : decode cX9_made 369 = .ok (.iload 4, 2) := by decide +kernel
theorem dX9_made_371 : decode cX9_made 371 = .ok (.aload_n 0, 1) := by decide +kernel
theorem dX9_made_372 : decode cX9_made 372 = .ok (.getfield 44, 3) := by decide +kernel
theorem dX9_made_375 : decode cX9_made 375 = .ok (.iload_n 3, 1) := by decide +kernel
theorem dX9_made_376 : decode cX9_made 376 = .ok (.iaload, 1) := by decide +kernel
theorem dX9_made_377 : decode cX9_made 377 = .ok (.iastore, 1) := by decide +kernel
theorem dX9_made_378 : decode cX9_made 378 = .ok (.aload_n 0, 1) := by decide +kernel
theorem dX9_made_379 : decode cX9_made 379 = .ok (.getfield 29, 3) := by decide +kernel
theorem dX9_made_382 : decode cX9_made 382 = .ok (.iload 4, 2) := by decide +kernel
theorem dX9_made_384 : decode cX9_made 384 = .ok (.iconst 1, 1) := by decide +kernel
theorem dX9_made_385 : decode cX9_made 385 = .ok (.iadd, 1) := by decide +kernel
theorem dX9_made_386 : decode cX9_made 386 = .ok (.aload_n 0, 1) := by decide +kernel
theorem dX9_made_387 : decode cX9_made 387 = .ok (.getfield 47, 3) := by decide +kernel
theorem dX9_made_390 : decode cX9_made 390 = .ok (.iload_n 3, 1) := by decide +kernel
theorem dX9_made_391 : decode cX9_made 391 = .ok (.iaload, 1) := by decide +kernel
theorem dX9_made_392 : decode cX9_made 392 = .ok (.iastore, 1) := by decide +kernel
theorem dX9_made_393 : decode cX9_made 393 = .ok (.aload_n 0, 1) := by decide +kernel
theorem dX9_made_394 : decode cX9_made 394 = .ok (.getfield 29, 3) := by decide +kernel
theorem dX9_made_397 : decode cX9_made 397 = .ok (.iload 4, 2) := by decide +kernel
theorem dX9_made_399 : decode cX9_made 399 = .ok (.iconst 2, 1) := by decide +kernel
theorem dX9_made_400 : decode cX9_made 400 = .ok (.iadd, 1) := by decide +kernel
theorem dX9_made_401 : decode cX9_made 401 = .ok (.aload_n 0, 1) := by decide +kernel
theorem dX9_made_402 : decode cX9_made 402 = .ok (.getfield 50, 3) := by decide +kernel
theorem dX9_made_405 : decode cX9_made 405 = .ok (.iload_n 3, 1) := by decide +kernel
theorem dX9_made_406 : decode cX9_made 406 = .ok (.iaload, 1) := by decide +kernel
theorem dX9_made_407 : decode cX9_made 407 = .ok (.iastore, 1) := by decide +kernel
theorem dX9_made_408 : decode cX9_made 408 = .ok (.aload_n 0, 1) := by decide +kernel
theorem dX9_made_409 : decode cX9_made 409 = .ok (.getfield 26, 3) := by decide +kernel
theorem dX9_made_412 : decode cX9_made 412 = .ok (.iload_n 2, 1) := by decide +kernel
theorem dX9_made_413 : decode cX9_made 413 = .ok (.dup2, 1) := by decide +kernel
theorem dX9_made_414 : decode cX9_made 414 = .ok (.iaload, 1) := by decide +kernel
theorem dX9_made_415 : decode cX9_made 415 = .ok (.iconst 1, 1) := by decide +kernel
theorem dX9_made_416 : decode cX9_made 416 = .ok (.iadd, 1) := by decide +kernel
theorem dX9_made_417 : decode cX9_made 417 = .ok (.iastore, 1) := by decide +kernel
theorem dX9_made_418 : decode cX9_made 418 = .ok (.iinc 3 1, 3) := by decide +kernel
theorem dX9_made_421 : decode cX9_made 421 = .ok (.goto (-88), 3) := by decide +kernel
theorem dX9_made_424 : decode cX9_made 424 = .ok (.aload_n 0, 1) := by decide +kernel
theorem dX9_made_425 : decode cX9_made 425 = .ok (.getfield 38, 3) := by decide +kernel
theorem dX9_made_428 : decode cX9_made 428 = .ok (.iload_n 2, 1) := by decide +kernel
theorem dX9_made_429 : decode cX9_made 429 = .ok (.iload_n 1, 1) := by decide +kernel
theorem dX9_made_430 : decode cX9_made 430 = .ok (.iastore, 1) := by decide +kernel
theorem dX9_made_431 : decode cX9_made 431 = .ok (.aload_n 0, 1) := by decide +kernel
theorem dX9_made_432 : decode cX9_made 432 = .ok (.dup, 1) := by decide +kernel
theorem dX9_made_433 : decode cX9_made 433 = .ok (.getfield 124, 3) := by decide +kernel
theorem dX9_made_436 : decode cX9_made 436 = .ok (.iconst 1, 1) := by decide +kernel
theorem dX9_made_437 : decode cX9_made 437 = .ok (.iadd, 1) := by decide +kernel
theorem dX9_made_438 : decode cX9_made 438 = .ok (.putfield 124, 3) := by decide +kernel
theorem dX9_made_441 : decode cX9_made 441 = .ok (.iload_n 2, 1) := by decide +kernel
theorem dX9_made_442 : decode cX9_made 442 = .ok (.ireturn, 1) := by decide +kernel
set_option maxRecDepth 20000 in
theorem ggX9_body_X9_point : GoodIn wsX9_body wsX9_point := goodIn_r _ [9, 3, 10, 11, 12, 13, 14, 15, 8, 16, 78, 79, 80, 81, 82, 83, 84, 85, 86, 87, 88, 89, 90, 91, 92, 93, 94, 95, 96, 97, 98, 99, 100, 101] (by decide +kernel) (by decide +kernel)
set_option maxRecDepth 20000 in
theorem gX9_body_X9_point : GoodIn wsX9_body (wsV RX9 137 RX9 yX9_point wsX9_point) := goodIn_app (goodIn_of _ (by decide +kernel)) ggX9_body_X9_point
set_option maxRecDepth 20000 in
theorem ggX9_body_X9_made : GoodIn wsX9_body wsX9_made := goodIn_p _ [20, 33, 37, 40, 44, 48, 52, 56, 60, 64, 69, 73, 77] rfl (by decide +kernel)
set_option maxRecDepth 20000 in
theorem gX9_body_X9_made : GoodIn wsX9_body (wsV RX9 140 RX9 yX9_made wsX9_made) := goodIn_app (goodIn_of _ (by decide +kernel)) ggX9_body_X9_made
theorem dX9_body_0 : decode cX9_body 0 = .ok (.aload_n 0, 1) := by decide +kernel
theorem dX9_body_1 : decode cX9_body 1 = .ok (.getfield 64, 3) := by decide +kernel
theorem dX9_body_4 : decode cX9_body 4 = .ok (.ifCond .ne 6, 3) := by decide +kernel
theorem dX9_body_7 : decode cX9_body 7 = .ok (.bipush (-2), 2) := by decide +kernel
theorem dX9_body_9 : decode cX9_body 9 = .ok (.ireturn, 1) := by decide +kernel
theorem dX9_body_10 : decode cX9_body 10 = .ok (.aload_n 0, 1) := by decide +kernel
theorem dX9_body_11 : decode cX9_body 11 = .ok (.getfield 124, 3) := by decide +kernel
theorem dX9_body_14 : decode cX9_body 14 = .ok (.bipush 8, 2) := by decide +kernel
theorem dX9_body_16 : decode cX9_body 16 = .ok (.if_icmp .ne 6, 3) := by decide +kernel
theorem dX9_body_19 : decode cX9_body 19 = .ok (.bipush (-3), 2) := by decide +kernel
theorem dX9_body_21 : decode cX9_body 21 = .ok (.ireturn, 1) := by decide +kernel
theorem dX9_body_22 : decode cX9_body 22 = .ok (.aload_n 0, 1) := by decide +kernel
theorem dX9_body_23 : decode cX9_body 23 = .ok (.iconst 0, 1) := by decide +kernel
theorem dX9_body_24 : decode cX9_body 24 = .ok (.putfield 74, 3) := by decide +kernel
theorem dX9_body_27 : decode cX9_body 27 = .ok (.iconst 0, 1) := by decide +kernel
theorem dX9_body_28 : decode cX9_body 28 = .ok (.istore_n 1, 1) := by decide +kernel
theorem dX9_body_29 : decode cX9_body 29 = .ok (.iload_n 1, 1) := by decide +kernel
theorem dX9_body_30 : decode cX9_body 30 = .ok (.aload_n 0, 1) := by decide +kernel
theorem dX9_body_31 : decode cX9_body 31 = .ok (.getfield 64, 3) := by decide +kernel
theorem dX9_body_34 : decode cX9_body 34 = .ok (.if_icmp .ge 41, 3) := by decide +kernel
theorem dX9_body_37 : decode cX9_body 37 = .ok (.aload_n 0, 1) := by decide +kernel
theorem dX9_body_38 : decode cX9_body 38 = .ok (.aload_n 0, 1) := by decide +kernel
theorem dX9_body_39 : decode cX9_body 39 = .ok (.getfield 7, 3) := by decide +kernel
theorem dX9_body_42 : decode cX9_body 42 = .ok (.iconst 3, 1) := by decide +kernel
theorem dX9_body_43 : decode cX9_body 43 = .ok (.iload_n 1, 1) := by decide +kernel
theorem dX9_body_44 : decode cX9_body 44 = .ok (.imul, 1) := by decide +kernel
theorem dX9_body_45 : decode cX9_body 45 = .ok (.iaload, 1) := by decide +kernel
theorem dX9_body_46 : decode cX9_body 46 = .ok (.aload_n 0, 1) := by decide +kernel
theorem dX9_body_47 : decode cX9_body 47 = .ok (.getfield 7, 3) := by decide +kernel
theorem dX9_body_50 : decode cX9_body 50 = .ok (.iconst 3, 1) := by decide +kernel
theorem dX9_body_51 : decode cX9_body 51 = .ok (.iload_n 1, 1) := by decide +kernel
theorem dX9_body_52 : decode cX9_body 52 = .ok (.imul, 1) := by decide +kernel
theorem dX9_body_53 : decode cX9_body 53 = .ok (.iconst 1, 1) := by decide +kernel
theorem dX9_body_54 : decode cX9_body 54 = .ok (.iadd, 1) := by decide +kernel
theorem dX9_body_55 : decode cX9_body 55 = .ok (.iaload, 1) := by decide +kernel
theorem dX9_body_56 : decode cX9_body 56 = .ok (.aload_n 0, 1) := by decide +kernel
theorem dX9_body_57 : decode cX9_body 57 = .ok (.getfield 7, 3) := by decide +kernel
theorem dX9_body_60 : decode cX9_body 60 = .ok (.iconst 3, 1) := by decide +kernel
theorem dX9_body_61 : decode cX9_body 61 = .ok (.iload_n 1, 1) := by decide +kernel
theorem dX9_body_62 : decode cX9_body 62 = .ok (.imul, 1) := by decide +kernel
theorem dX9_body_63 : decode cX9_body 63 = .ok (.iconst 2, 1) := by decide +kernel
theorem dX9_body_64 : decode cX9_body 64 = .ok (.iadd, 1) := by decide +kernel
theorem dX9_body_65 : decode cX9_body 65 = .ok (.iaload, 1) := by decide +kernel
theorem dX9_body_66 : decode cX9_body 66 = .ok (.invokevirtual 137, 3) := by decide +kernel
theorem dX9_body_69 : decode cX9_body 69 = .ok (.iinc 1 1, 3) := by decide +kernel
theorem dX9_body_72 : decode cX9_body 72 = .ok (.goto (-43), 3) := by decide +kernel
theorem dX9_body_75 : decode cX9_body 75 = .ok (.aload_n 0, 1) := by decide +kernel
theorem dX9_body_76 : decode cX9_body 76 = .ok (.getfield 64, 3) := by decide +kernel
theorem dX9_body_79 : decode cX9_body 79 = .ok (.istore_n 1, 1) := by decide +kernel
theorem dX9_body_80 : decode cX9_body 80 = .ok (.aload_n 0, 1) := by decide +kernel
theorem dX9_body_81 : decode cX9_body 81 = .ok (.iconst 0, 1) := by decide +kernel
theorem dX9_body_82 : decode cX9_body 82 = .ok (.putfield 64, 3) := by decide +kernel
theorem dX9_body_85 : decode cX9_body 85 = .ok (.aload_n 0, 1) := by decide +kernel
theorem dX9_body_86 : decode cX9_body 86 = .ok (.iload_n 1, 1) := by decide +kernel
theorem dX9_body_87 : decode cX9_body 87 = .ok (.invokevirtual 140, 3) := by decide +kernel
theorem dX9_body_90 : decode cX9_body 90 = .ok (.ireturn, 1) := by decide +kernel
theorem dX9_drop_0 : decode cX9_drop 0 = .ok (.aload_n 0, 1) := by decide +kernel
theorem dX9_drop_1 : decode cX9_drop 1 = .ok (.getfield 124, 3) := by decide +kernel
theorem dX9_drop_4 : decode cX9_drop 4 = .ok (.ifCond .ne 6, 3) := by decide +kernel
theorem dX9_drop_7 : decode cX9_drop 7 = .ok (.bipush (-4), 2) := by decide +kernel
theorem dX9_drop_9 : decode cX9_drop 9 = .ok (.ireturn, 1) := by decide +kernel
theorem dX9_drop_10 : decode cX9_drop 10 = .ok (.aload_n 0, 1) := by decide +kernel
theorem dX9_drop_11 : decode cX9_drop 11 = .ok (.dup, 1) := by decide +kernel
theorem dX9_drop_12 : decode cX9_drop 12 = .ok (.getfield 124, 3) := by decide +kernel
theorem dX9_drop_15 : decode cX9_drop 15 = .ok (.iconst 1, 1) := by decide +kernel
theorem dX9_drop_16 : decode cX9_drop 16 = .ok (.isub, 1) := by decide +kernel
theorem dX9_drop_17 : decode cX9_drop 17 = .ok (.putfield 124, 3) := by decide +kernel
theorem dX9_drop_20 : decode cX9_drop 20 = .ok (.aload_n 0, 1) := by decide +kernel
theorem dX9_drop_21 : decode cX9_drop 21 = .ok (.getfield 124, 3) := by decide +kernel
theorem dX9_drop_24 : decode cX9_drop 24 = .ok (.ireturn, 1) := by decide +kernel
set_option maxRecDepth 20000 in
theorem ggX9_is_X9_in : GoodIn wsX9_is wsX9_in := goodIn_r _ [5] (by decide +kernel) (by decide +kernel)
set_option maxRecDepth 20000 in
theorem gX9_is_X9_in : GoodIn wsX9_is (va_wsS RX9 60 yX9_in wsX9_in) := goodIn_app (goodIn_of _ (by decide +kernel)) ggX9_is_X9_in
theorem dX9_is_0 : decode cX9_is 0 = .ok (.iload_n 1, 1) := by decide +kernel
theorem dX9_is_1 : decode cX9_is 1 = .ok (.i2l, 1) := by decide +kernel
theorem dX9_is_2 : decode cX9_is 2 = .ok (.lconst 0, 1) := by decide +kernel
theorem dX9_is_3 : decode cX9_is 3 = .ok (.aload_n 0, 1) := by decide +kernel
theorem dX9_is_4 : decode cX9_is 4 = .ok (.getfield 124, 3) := by decide +kernel
theorem dX9_is_7 : decode cX9_is 7 = .ok (.iconst 1, 1) := by decide +kernel
theorem dX9_is_8 : decode cX9_is 8 = .ok (.isub, 1) := by decide +kernel
theorem dX9_is_9 : decode cX9_is 9 = .ok (.i2l, 1) := by decide +kernel
theorem dX9_is_10 : decode cX9_is 10 = .ok (.invokestatic 60, 3) := by decide +kernel
theorem dX9_is_13 : decode cX9_is 13 = .ok (.ireturn, 1) := by decide +kernel
theorem dX9_least_0 : decode cX9_least 0 = .ok (.sipush 1000, 3) := by decide +kernel
theorem dX9_least_3 : decode cX9_least 3 = .ok (.istore_n 3, 1) := by decide +kernel
theorem dX9_least_4 : decode cX9_least 4 = .ok (.iconst 0, 1) := by decide +kernel
theorem dX9_least_5 : decode cX9_least 5 = .ok (.istore 4, 2) := by decide +kernel
theorem dX9_least_7 : decode cX9_least 7 = .ok (.iload 4, 2) := by decide +kernel
theorem dX9_least_9 : decode cX9_least 9 = .ok (.aload_n 0, 1) := by decide +kernel
theorem dX9_least_10 : decode cX9_least 10 = .ok (.getfield 26, 3) := by decide +kernel
theorem dX9_least_13 : decode cX9_least 13 = .ok (.iload_n 1, 1) := by decide +kernel
theorem dX9_least_14 : decode cX9_least 14 = .ok (.iaload, 1) := by decide +kernel
theorem dX9_least_15 : decode cX9_least 15 = .ok (.if_icmp .ge 40, 3) := by decide +kernel
theorem dX9_least_18 : decode cX9_least 18 = .ok (.aload_n 0, 1) := by decide +kernel
theorem dX9_least_19 : decode cX9_least 19 = .ok (.getfield 29, 3) := by decide +kernel
theorem dX9_least_22 : decode cX9_least 22 = .ok (.bipush 120, 2) := by decide +kernel
theorem dX9_least_24 : decode cX9_least 24 = .ok (.iload_n 1, 1) := by decide +kernel
theorem dX9_least_25 : decode cX9_least 25 = .ok (.imul, 1) := by decide +kernel
theorem dX9_least_26 : decode cX9_least 26 = .ok (.iconst 3, 1) := by decide +kernel
theorem dX9_least_27 : decode cX9_least 27 = .ok (.iload 4, 2) := by decide +kernel
theorem dX9_least_29 : decode cX9_least 29 = .ok (.imul, 1) := by decide +kernel
theorem dX9_least_30 : decode cX9_least 30 = .ok (.iadd, 1) := by decide +kernel
theorem dX9_least_31 : decode cX9_least 31 = .ok (.iload_n 2, 1) := by decide +kernel
theorem dX9_least_32 : decode cX9_least 32 = .ok (.iadd, 1) := by decide +kernel
theorem dX9_least_33 : decode cX9_least 33 = .ok (.iaload, 1) := by decide +kernel
theorem dX9_least_34 : decode cX9_least 34 = .ok (.istore 5, 2) := by decide +kernel
theorem dX9_least_36 : decode cX9_least 36 = .ok (.iload 5, 2) := by decide +kernel
theorem dX9_least_38 : decode cX9_least 38 = .ok (.iload_n 3, 1) := by decide +kernel
theorem dX9_least_39 : decode cX9_least 39 = .ok (.if_icmp .ge 8, 3) := by decide +kernel
theorem dX9_least_42 : decode cX9_least 42 = .ok (.iload 5, 2) := by decide +kernel
theorem dX9_least_44 : decode cX9_least 44 = .ok (.goto 4, 3) := by decide +kernel
theorem dX9_least_47 : decode cX9_least 47 = .ok (.iload_n 3, 1) := by decide +kernel
theorem dX9_least_48 : decode cX9_least 48 = .ok (.istore_n 3, 1) := by decide +kernel
theorem dX9_least_49 : decode cX9_least 49 = .ok (.iinc 4 1, 3) := by decide +kernel
theorem dX9_least_52 : decode cX9_least 52 = .ok (.goto (-45), 3) := by decide +kernel
theorem dX9_least_55 : decode cX9_least 55 = .ok (.iload_n 3, 1) := by decide +kernel
theorem dX9_least_56 : decode cX9_least 56 = .ok (.ireturn, 1) := by decide +kernel
theorem dX9_greatest_0 : decode cX9_greatest 0 = .ok (.sipush (-1000), 3) := by decide +kernel
theorem dX9_greatest_3 : decode cX9_greatest 3 = .ok (.istore_n 3, 1) := by decide +kernel
theorem dX9_greatest_4 : decode cX9_greatest 4 = .ok (.iconst 0, 1) := by decide +kernel
theorem dX9_greatest_5 : decode cX9_greatest 5 = .ok (.istore 4, 2) := by decide +kernel
theorem dX9_greatest_7 : decode cX9_greatest 7 = .ok (.iload 4, 2) := by decide +kernel
theorem dX9_greatest_9 : decode cX9_greatest 9 = .ok (.aload_n 0, 1) := by decide +kernel
theorem dX9_greatest_10 : decode cX9_greatest 10 = .ok (.getfield 26, 3) := by decide +kernel
theorem dX9_greatest_13 : decode cX9_greatest 13 = .ok (.iload_n 1, 1) := by decide +kernel
theorem dX9_greatest_14 : decode cX9_greatest 14 = .ok (.iaload, 1) := by decide +kernel
theorem dX9_greatest_15 : decode cX9_greatest 15 = .ok (.if_icmp .ge 40, 3) := by decide +kernel
theorem dX9_greatest_18 : decode cX9_greatest 18 = .ok (.aload_n 0, 1) := by decide +kernel
theorem dX9_greatest_19 : decode cX9_greatest 19 = .ok (.getfield 29, 3) := by decide +kernel
theorem dX9_greatest_22 : decode cX9_greatest 22 = .ok (.bipush 120, 2) := by decide +kernel
theorem dX9_greatest_24 : decode cX9_greatest 24 = .ok (.iload_n 1, 1) := by decide +kernel
theorem dX9_greatest_25 : decode cX9_greatest 25 = .ok (.imul, 1) := by decide +kernel
theorem dX9_greatest_26 : decode cX9_greatest 26 = .ok (.iconst 3, 1) := by decide +kernel
theorem dX9_greatest_27 : decode cX9_greatest 27 = .ok (.iload 4, 2) := by decide +kernel
theorem dX9_greatest_29 : decode cX9_greatest 29 = .ok (.imul, 1) := by decide +kernel
theorem dX9_greatest_30 : decode cX9_greatest 30 = .ok (.iadd, 1) := by decide +kernel
theorem dX9_greatest_31 : decode cX9_greatest 31 = .ok (.iload_n 2, 1) := by decide +kernel
theorem dX9_greatest_32 : decode cX9_greatest 32 = .ok (.iadd, 1) := by decide +kernel
theorem dX9_greatest_33 : decode cX9_greatest 33 = .ok (.iaload, 1) := by decide +kernel
theorem dX9_greatest_34 : decode cX9_greatest 34 = .ok (.istore 5, 2) := by decide +kernel
theorem dX9_greatest_36 : decode cX9_greatest 36 = .ok (.iload 5, 2) := by decide +kernel
theorem dX9_greatest_38 : decode cX9_greatest 38 = .ok (.iload_n 3, 1) := by decide +kernel
theorem dX9_greatest_39 : decode cX9_greatest 39 = .ok (.if_icmp .le 8, 3) := by decide +kernel
theorem dX9_greatest_42 : decode cX9_greatest 42 = .ok (.iload 5, 2) := by decide +kernel
theorem dX9_greatest_44 : decode cX9_greatest 44 = .ok (.goto 4, 3) := by decide +kernel
theorem dX9_greatest_47 : decode cX9_greatest 47 = .ok (.iload_n 3, 1) := by decide +kernel
theorem dX9_greatest_48 : decode cX9_greatest 48 = .ok (.istore_n 3, 1) := by decide +kernel
theorem dX9_greatest_49 : decode cX9_greatest 49 = .ok (.iinc 4 1, 3) := by decide +kernel
theorem dX9_greatest_52 : decode cX9_greatest 52 = .ok (.goto (-45), 3) := by decide +kernel
theorem dX9_greatest_55 : decode cX9_greatest 55 = .ok (.iload_n 3, 1) := by decide +kernel
theorem dX9_greatest_56 : decode cX9_greatest 56 = .ok (.ireturn, 1) := by decide +kernel
theorem dX9_where_0 : decode cX9_where 0 = .ok (.bipush 120, 2) := by decide +kernel
theorem dX9_where_2 : decode cX9_where 2 = .ok (.iload_n 1, 1) := by decide +kernel
theorem dX9_where_3 : decode cX9_where 3 = .ok (.imul, 1) := by decide +kernel
theorem dX9_where_4 : decode cX9_where 4 = .ok (.istore 10, 2) := by decide +kernel
theorem dX9_where_6 : decode cX9_where 6 = .ok (.lload_n 2, 1) := by decide +kernel
theorem dX9_where_7 : decode cX9_where 7 = .ok (.lload 8, 2) := by decide +kernel
theorem dX9_where_9 : decode cX9_where 9 = .ok (.aload_n 0, 1) := by decide +kernel
theorem dX9_where_10 : decode cX9_where 10 = .ok (.getfield 29, 3) := by decide +kernel
theorem dX9_where_13 : decode cX9_where 13 = .ok (.iload 10, 2) := by decide +kernel
theorem dX9_where_15 : decode cX9_where 15 = .ok (.iaload, 1) := by decide +kernel
theorem dX9_where_16 : decode cX9_where 16 = .ok (.i2l, 1) := by decide +kernel
theorem dX9_where_17 : decode cX9_where 17 = .ok (.lmul, 1) := by decide +kernel
theorem dX9_where_18 : decode cX9_where 18 = .ok (.lsub, 1) := by decide +kernel
theorem dX9_where_19 : decode cX9_where 19 = .ok (.lstore 11, 2) := by decide +kernel
theorem dX9_where_21 : decode cX9_where 21 = .ok (.lload 4, 2) := by decide +kernel
theorem dX9_where_23 : decode cX9_where 23 = .ok (.lload 8, 2) := by decide +kernel
theorem dX9_where_25 : decode cX9_where 25 = .ok (.aload_n 0, 1) := by decide +kernel
theorem dX9_where_26 : decode cX9_where 26 = .ok (.getfield 29, 3) := by decide +kernel
theorem dX9_where_29 : decode cX9_where 29 = .ok (.iload 10, 2) := by decide +kernel
theorem dX9_where_31 : decode cX9_where 31 = .ok (.iconst 1, 1) := by decide +kernel
theorem dX9_where_32 : decode cX9_where 32 = .ok (.iadd, 1) := by decide +kernel
theorem dX9_where_33 : decode cX9_where 33 = .ok (.iaload, 1) := by decide +kernel
theorem dX9_where_34 : decode cX9_where 34 = .ok (.i2l, 1) := by decide +kernel
theorem dX9_where_35 : decode cX9_where 35 = .ok (.lmul, 1) := by decide +kernel
theorem dX9_where_36 : decode cX9_where 36 = .ok (.lsub, 1) := by decide +kernel
theorem dX9_where_37 : decode cX9_where 37 = .ok (.lstore 13, 2) := by decide +kernel
theorem dX9_where_39 : decode cX9_where 39 = .ok (.lload 6, 2) := by decide +kernel
theorem dX9_where_41 : decode cX9_where 41 = .ok (.lload 8, 2) := by decide +kernel
theorem dX9_where_43 : decode cX9_where 43 = .ok (.aload_n 0, 1) := by decide +kernel
theorem dX9_where_44 : decode cX9_where 44 = .ok (.getfield 29, 3) := by decide +kernel
theorem dX9_where_47 : decode cX9_where 47 = .ok (.iload 10, 2) := by decide +kernel
theorem dX9_where_49 : decode cX9_where 49 = .ok (.iconst 2, 1) := by decide +kernel
theorem dX9_where_50 : decode cX9_where 50 = .ok (.iadd, 1) := by decide +kernel
theorem dX9_where_51 : decode cX9_where 51 = .ok (.iaload, 1) := by decide +kernel
theorem dX9_where_52 : decode cX9_where 52 = .ok (.i2l, 1) := by decide +kernel
theorem dX9_where_53 : decode cX9_where 53 = .ok (.lmul, 1) := by decide +kernel
theorem dX9_where_54 : decode cX9_where 54 = .ok (.lsub, 1) := by decide +kernel
theorem dX9_where_55 : decode cX9_where 55 = .ok (.lstore 15, 2) := by decide +kernel
theorem dX9_where_57 : decode cX9_where 57 = .ok (.aload_n 0, 1) := by decide +kernel
theorem dX9_where_58 : decode cX9_where 58 = .ok (.getfield 41, 3) := by decide +kernel
theorem dX9_where_61 : decode cX9_where 61 = .ok (.iconst 4, 1) := by decide +kernel
theorem dX9_where_62 : decode cX9_where 62 = .ok (.iload_n 1, 1) := by decide +kernel
theorem dX9_where_63 : decode cX9_where 63 = .ok (.imul, 1) := by decide +kernel
theorem dX9_where_64 : decode cX9_where 64 = .ok (.iaload, 1) := by decide +kernel
theorem dX9_where_65 : decode cX9_where 65 = .ok (.i2l, 1) := by decide +kernel
theorem dX9_where_66 : decode cX9_where 66 = .ok (.lstore 17, 2) := by decide +kernel
theorem dX9_where_68 : decode cX9_where 68 = .ok (.aload_n 0, 1) := by decide +kernel
theorem dX9_where_69 : decode cX9_where 69 = .ok (.getfield 41, 3) := by decide +kernel
theorem dX9_where_72 : decode cX9_where 72 = .ok (.iconst 4, 1) := by decide +kernel
theorem dX9_where_73 : decode cX9_where 73 = .ok (.iload_n 1, 1) := by decide +kernel
theorem dX9_where_74 : decode cX9_where 74 = .ok (.imul, 1) := by decide +kernel
theorem dX9_where_75 : decode cX9_where 75 = .ok (.iconst 1, 1) := by decide +kernel
theorem dX9_where_76 : decode cX9_where 76 = .ok (.iadd, 1) := by decide +kernel
theorem dX9_where_77 : decode cX9_where 77 = .ok (.iaload, 1) := by decide +kernel
theorem dX9_where_78 : decode cX9_where 78 = .ok (.i2l, 1) := by decide +kernel
theorem dX9_where_79 : decode cX9_where 79 = .ok (.lstore 19, 2) := by decide +kernel
theorem dX9_where_81 : decode cX9_where 81 = .ok (.aload_n 0, 1) := by decide +kernel
theorem dX9_where_82 : decode cX9_where 82 = .ok (.getfield 41, 3) := by decide +kernel
theorem dX9_where_85 : decode cX9_where 85 = .ok (.iconst 4, 1) := by decide +kernel
theorem dX9_where_86 : decode cX9_where 86 = .ok (.iload_n 1, 1) := by decide +kernel
theorem dX9_where_87 : decode cX9_where 87 = .ok (.imul, 1) := by decide +kernel
theorem dX9_where_88 : decode cX9_where 88 = .ok (.iconst 2, 1) := by decide +kernel
theorem dX9_where_89 : decode cX9_where 89 = .ok (.iadd, 1) := by decide +kernel
theorem dX9_where_90 : decode cX9_where 90 = .ok (.iaload, 1) := by decide +kernel
theorem dX9_where_91 : decode cX9_where 91 = .ok (.i2l, 1) := by decide +kernel
theorem dX9_where_92 : decode cX9_where 92 = .ok (.lstore 21, 2) := by decide +kernel
theorem dX9_where_94 : decode cX9_where 94 = .ok (.aload_n 0, 1) := by decide +kernel
theorem dX9_where_95 : decode cX9_where 95 = .ok (.getfield 23, 3) := by decide +kernel
theorem dX9_where_98 : decode cX9_where 98 = .ok (.iload_n 1, 1) := by decide +kernel
theorem dX9_where_99 : decode cX9_where 99 = .ok (.iaload, 1) := by decide +kernel
theorem dX9_where_100 : decode cX9_where 100 = .ok (.ifCond .ne 30, 3) := by decide +kernel
theorem dX9_where_103 : decode cX9_where 103 = .ok (.lload 11, 2) := by decide +kernel
theorem dX9_where_105 : decode cX9_where 105 = .ok (.lconst 0, 1) := by decide +kernel
theorem dX9_where_106 : decode cX9_where 106 = .ok (.lcmp, 1) := by decide +kernel
theorem dX9_where_107 : decode cX9_where 107 = .ok (.ifCond .ne 21, 3) := by decide +kernel
theorem dX9_where_110 : decode cX9_where 110 = .ok (.lload 13, 2) := by decide +kernel
theorem dX9_where_112 : decode cX9_where 112 = .ok (.lconst 0, 1) := by decide +kernel
theorem dX9_where_113 : decode cX9_where 113 = .ok (.lcmp, 1) := by decide +kernel
theorem dX9_where_114 : decode cX9_where 114 = .ok (.ifCond .ne 14, 3) := by decide +kernel
theorem dX9_where_117 : decode cX9_where 117 = .ok (.lload 15, 2) := by decide +kernel
theorem dX9_where_119 : decode cX9_where 119 = .ok (.lconst 0, 1) := by decide +kernel
theorem dX9_where_120 : decode cX9_where 120 = .ok (.lcmp, 1) := by decide +kernel
theorem dX9_where_121 : decode cX9_where 121 = .ok (.ifCond .ne 7, 3) := by decide +kernel
theorem dX9_where_124 : decode cX9_where 124 = .ok (.iconst 2, 1) := by decide +kernel
theorem dX9_where_125 : decode cX9_where 125 = .ok (.goto 4, 3) := by decide +kernel
theorem dX9_where_128 : decode cX9_where 128 = .ok (.iconst 0, 1) := by decide +kernel
theorem dX9_where_129 : decode cX9_where 129 = .ok (.ireturn, 1) := by decide +kernel
theorem dX9_where_130 : decode cX9_where 130 = .ok (.aload_n 0, 1) := by decide +kernel
theorem dX9_where_131 : decode cX9_where 131 = .ok (.getfield 23, 3) := by decide +kernel
theorem dX9_where_134 : decode cX9_where 134 = .ok (.iload_n 1, 1) := by decide +kernel
theorem dX9_where_135 : decode cX9_where 135 = .ok (.iaload, 1) := by decide +kernel
theorem dX9_where_136 : decode cX9_where 136 = .ok (.iconst 1, 1) := by decide +kernel
theorem dX9_where_137 : decode cX9_where 137 = .ok (.if_icmp .ne 47, 3) := by decide +kernel
theorem dX9_where_140 : decode cX9_where 140 = .ok (.lload 13, 2) := by decide +kernel
theorem dX9_where_142 : decode cX9_where 142 = .ok (.lload 21, 2) := by decide +kernel
theorem dX9_where_144 : decode cX9_where 144 = .ok (.lmul, 1) := by decide +kernel
theorem dX9_where_145 : decode cX9_where 145 = .ok (.lload 15, 2) := by decide +kernel
theorem dX9_where_147 : decode cX9_where 147 = .ok (.lload 19, 2) := by decide +kernel
theorem dX9_where_149 : decode cX9_where 149 = .ok (.lmul, 1) := by decide +kernel
theorem dX9_where_150 : decode cX9_where 150 = .ok (.lcmp, 1) := by decide +kernel
theorem dX9_where_151 : decode cX9_where 151 = .ok (.ifCond .ne 31, 3) := by decide +kernel
theorem dX9_where_154 : decode cX9_where 154 = .ok (.lload 15, 2) := by decide +kernel
theorem dX9_where_156 : decode cX9_where 156 = .ok (.lload 17, 2) := by decide +kernel
theorem dX9_where_158 : decode cX9_where 158 = .ok (.lmul, 1) := by decide +kernel
theorem dX9_where_159 : decode cX9_where 159 = .ok (.lload 11, 2) := by decide +kernel
theorem dX9_where_161 : decode cX9_where 161 = .ok (.lload 21, 2) := by decide +kernel
theorem dX9_where_163 : decode cX9_where 163 = .ok (.lmul, 1) := by decide +kernel
theorem dX9_where_164 : decode cX9_where 164 = .ok (.lcmp, 1) := by decide +kernel
theorem dX9_where_165 : decode cX9_where 165 = .ok (.ifCond .ne 17, 3) := by decide +kernel
theorem dX9_where_168 : decode cX9_where 168 = .ok (.lload 11, 2) := by decide +kernel
theorem dX9_where_170 : decode cX9_where 170 = .ok (.lload 19, 2) := by decide +kernel
theorem dX9_where_172 : decode cX9_where 172 = .ok (.lmul, 1) := by decide +kernel
theorem dX9_where_173 : decode cX9_where 173 = .ok (.lload 13, 2) := by decide +kernel
theorem dX9_where_175 : decode cX9_where 175 = .ok (.lload 17, 2) := by decide +kernel
theorem dX9_where_177 : decode cX9_where 177 = .ok (.lmul, 1) := by decide +kernel
theorem dX9_where_178 : decode cX9_where 178 = .ok (.lcmp, 1) := by decide +kernel
theorem dX9_where_179 : decode cX9_where 179 = .ok (.ifCond .eq 5, 3) := by decide +kernel
theorem dX9_where_182 : decode cX9_where 182 = .ok (.iconst 0, 1) := by decide +kernel
theorem dX9_where_183 : decode cX9_where 183 = .ok (.ireturn, 1) := by decide +kernel
theorem dX9_where_184 : decode cX9_where 184 = .ok (.aload_n 0, 1) := by decide +kernel
theorem dX9_where_185 : decode cX9_where 185 = .ok (.getfield 23, 3) := by decide +kernel
theorem dX9_where_188 : decode cX9_where 188 = .ok (.iload_n 1, 1) := by decide +kernel
theorem dX9_where_189 : decode cX9_where 189 = .ok (.iaload, 1) := by decide +kernel
theorem dX9_where_190 : decode cX9_where 190 = .ok (.iconst 2, 1) := by decide +kernel
theorem dX9_where_191 : decode cX9_where 191 = .ok (.if_icmp .ne 27, 3) := by decide +kernel
theorem dX9_where_194 : decode cX9_where 194 = .ok (.lload 17, 2) := by decide +kernel
theorem dX9_where_196 : decode cX9_where 196 = .ok (.lload 11, 2) := by decide +kernel
theorem dX9_where_198 : decode cX9_where 198 = .ok (.lmul, 1) := by decide +kernel
theorem dX9_where_199 : decode cX9_where 199 = .ok (.lload 19, 2) := by decide +kernel
theorem dX9_where_201 : decode cX9_where 201 = .ok (.lload 13, 2) := by decide +kernel
theorem dX9_where_203 : decode cX9_where 203 = .ok (.lmul, 1) := by decide +kernel
theorem dX9_where_204 : decode cX9_where 204 = .ok (.ladd, 1) := by decide +kernel
theorem dX9_where_205 : decode cX9_where 205 = .ok (.lload 21, 2) := by decide +kernel
theorem dX9_where_207 : decode cX9_where 207 = .ok (.lload 15, 2) := by decide +kernel
theorem dX9_where_209 : decode cX9_where 209 = .ok (.lmul, 1) := by decide +kernel
theorem dX9_where_210 : decode cX9_where 210 = .ok (.ladd, 1) := by decide +kernel
theorem dX9_where_211 : decode cX9_where 211 = .ok (.lconst 0, 1) := by decide +kernel
theorem dX9_where_212 : decode cX9_where 212 = .ok (.lcmp, 1) := by decide +kernel
theorem dX9_where_213 : decode cX9_where 213 = .ok (.ifCond .eq 5, 3) := by decide +kernel
