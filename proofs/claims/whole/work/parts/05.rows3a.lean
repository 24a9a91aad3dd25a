theorem dX9_where_216 : decode cX9_where 216 = .ok (.iconst 0, 1) := by decide +kernel
theorem dX9_where_217 : decode cX9_where 217 = .ok (.ireturn, 1) := by decide +kernel
theorem dX9_where_218 : decode cX9_where 218 = .ok (.iconst 2, 1) := by decide +kernel
theorem dX9_where_219 : decode cX9_where 219 = .ok (.istore 23, 2) := by decide +kernel
theorem dX9_where_221 : decode cX9_where 221 = .ok (.iconst 0, 1) := by decide +kernel
theorem dX9_where_222 : decode cX9_where 222 = .ok (.istore 24, 2) := by decide +kernel
theorem dX9_where_224 : decode cX9_where 224 = .ok (.iload 24, 2) := by decide +kernel
theorem dX9_where_226 : decode cX9_where 226 = .ok (.aload_n 0, 1) := by decide +kernel
theorem dX9_where_227 : decode cX9_where 227 = .ok (.getfield 32, 3) := by decide +kernel
theorem dX9_where_230 : decode cX9_where 230 = .ok (.iload_n 1, 1) := by decide +kernel
theorem dX9_where_231 : decode cX9_where 231 = .ok (.iaload, 1) := by decide +kernel
theorem dX9_where_232 : decode cX9_where 232 = .ok (.if_icmp .ge 99, 3) := by decide +kernel
theorem dX9_where_235 : decode cX9_where 235 = .ok (.sipush 360, 3) := by decide +kernel
theorem dX9_where_238 : decode cX9_where 238 = .ok (.iload_n 1, 1) := by decide +kernel
theorem dX9_where_239 : decode cX9_where 239 = .ok (.imul, 1) := by decide +kernel
theorem dX9_where_240 : decode cX9_where 240 = .ok (.iconst 4, 1) := by decide +kernel
theorem dX9_where_241 : decode cX9_where 241 = .ok (.iload 24, 2) := by decide +kernel
theorem dX9_where_243 : decode cX9_where 243 = .ok (.imul, 1) := by decide +kernel
theorem dX9_where_244 : decode cX9_where 244 = .ok (.iadd, 1) := by decide +kernel
theorem dX9_where_245 : decode cX9_where 245 = .ok (.istore 25, 2) := by decide +kernel
theorem dX9_where_247 : decode cX9_where 247 = .ok (.aload_n 0, 1) := by decide +kernel
theorem dX9_where_248 : decode cX9_where 248 = .ok (.getfield 35, 3) := by decide +kernel
theorem dX9_where_251 : decode cX9_where 251 = .ok (.iload 25, 2) := by decide +kernel
theorem dX9_where_253 : decode cX9_where 253 = .ok (.iaload, 1) := by decide +kernel
theorem dX9_where_254 : decode cX9_where 254 = .ok (.i2l, 1) := by decide +kernel
theorem dX9_where_255 : decode cX9_where 255 = .ok (.lload_n 2, 1) := by decide +kernel
theorem dX9_where_256 : decode cX9_where 256 = .ok (.lmul, 1) := by decide +kernel
theorem dX9_where_257 : decode cX9_where 257 = .ok (.aload_n 0, 1) := by decide +kernel
theorem dX9_where_258 : decode cX9_where 258 = .ok (.getfield 35, 3) := by decide +kernel
theorem dX9_where_261 : decode cX9_where 261 = .ok (.iload 25, 2) := by decide +kernel
theorem dX9_where_263 : decode cX9_where 263 = .ok (.iconst 1, 1) := by decide +kernel
theorem dX9_where_264 : decode cX9_where 264 = .ok (.iadd, 1) := by decide +kernel
theorem dX9_where_265 : decode cX9_where 265 = .ok (.iaload, 1) := by decide +kernel
theorem dX9_where_266 : decode cX9_where 266 = .ok (.i2l, 1) := by decide +kernel
theorem dX9_where_267 : decode cX9_where 267 = .ok (.lload 4, 2) := by decide +kernel
theorem dX9_where_269 : decode cX9_where 269 = .ok (.lmul, 1) := by decide +kernel
theorem dX9_where_270 : decode cX9_where 270 = .ok (.ladd, 1) := by decide +kernel
theorem dX9_where_271 : decode cX9_where 271 = .ok (.aload_n 0, 1) := by decide +kernel
theorem dX9_where_272 : decode cX9_where 272 = .ok (.getfield 35, 3) := by decide +kernel
theorem dX9_where_275 : decode cX9_where 275 = .ok (.iload 25, 2) := by decide +kernel
theorem dX9_where_277 : decode cX9_where 277 = .ok (.iconst 2, 1) := by decide +kernel
theorem dX9_where_278 : decode cX9_where 278 = .ok (.iadd, 1) := by decide +kernel
theorem dX9_where_279 : decode cX9_where 279 = .ok (.iaload, 1) := by decide +kernel
theorem dX9_where_280 : decode cX9_where 280 = .ok (.i2l, 1) := by decide +kernel
theorem dX9_where_281 : decode cX9_where 281 = .ok (.lload 6, 2) := by decide +kernel
theorem dX9_where_283 : decode cX9_where 283 = .ok (.lmul, 1) := by decide +kernel
theorem dX9_where_284 : decode cX9_where 284 = .ok (.ladd, 1) := by decide +kernel
theorem dX9_where_285 : decode cX9_where 285 = .ok (.lload 8, 2) := by decide +kernel
theorem dX9_where_287 : decode cX9_where 287 = .ok (.aload_n 0, 1) := by decide +kernel
theorem dX9_where_288 : decode cX9_where 288 = .ok (.getfield 35, 3) := by decide +kernel
theorem dX9_where_291 : decode cX9_where 291 = .ok (.iload 25, 2) := by decide +kernel
theorem dX9_where_293 : decode cX9_where 293 = .ok (.iconst 3, 1) := by decide +kernel
theorem dX9_where_294 : decode cX9_where 294 = .ok (.iadd, 1) := by decide +kernel
theorem dX9_where_295 : decode cX9_where 295 = .ok (.iaload, 1) := by decide +kernel
theorem dX9_where_296 : decode cX9_where 296 = .ok (.i2l, 1) := by decide +kernel
theorem dX9_where_297 : decode cX9_where 297 = .ok (.lmul, 1) := by decide +kernel
theorem dX9_where_298 : decode cX9_where 298 = .ok (.lsub, 1) := by decide +kernel
theorem dX9_where_299 : decode cX9_where 299 = .ok (.lstore 26, 2) := by decide +kernel
theorem dX9_where_301 : decode cX9_where 301 = .ok (.lload 26, 2) := by decide +kernel
theorem dX9_where_303 : decode cX9_where 303 = .ok (.lconst 0, 1) := by decide +kernel
theorem dX9_where_304 : decode cX9_where 304 = .ok (.lcmp, 1) := by decide +kernel
theorem dX9_where_305 : decode cX9_where 305 = .ok (.ifCond .le 5, 3) := by decide +kernel
theorem dX9_where_308 : decode cX9_where 308 = .ok (.iconst 0, 1) := by decide +kernel
theorem dX9_where_309 : decode cX9_where 309 = .ok (.ireturn, 1) := by decide +kernel
theorem dX9_where_310 : decode cX9_where 310 = .ok (.lload 26, 2) := by decide +kernel
theorem dX9_where_312 : decode cX9_where 312 = .ok (.lconst 0, 1) := by decide +kernel
theorem dX9_where_313 : decode cX9_where 313 = .ok (.lcmp, 1) := by decide +kernel
theorem dX9_where_314 : decode cX9_where 314 = .ok (.ifCond .ne 7, 3) := by decide +kernel
theorem dX9_where_317 : decode cX9_where 317 = .ok (.iconst 1, 1) := by decide +kernel
theorem dX9_where_318 : decode cX9_where 318 = .ok (.goto 5, 3) := by decide +kernel
theorem dX9_where_321 : decode cX9_where 321 = .ok (.iload 23, 2) := by decide +kernel
theorem dX9_where_323 : decode cX9_where 323 = .ok (.istore 23, 2) := by decide +kernel
theorem dX9_where_325 : decode cX9_where 325 = .ok (.iinc 24 1, 3) := by decide +kernel
theorem dX9_where_328 : decode cX9_where 328 = .ok (.goto (-104), 3) := by decide +kernel
theorem dX9_where_331 : decode cX9_where 331 = .ok (.iload 23, 2) := by decide +kernel
theorem dX9_where_333 : decode cX9_where 333 = .ok (.ireturn, 1) := by decide +kernel
set_option maxRecDepth 20000 in
theorem ggX9_counted_X9_least : GoodIn wsX9_counted wsX9_least := goodIn_r _ [5, 6, 7, 20, 21, 22, 23, 24, 25, 26, 27, 28, 29, 30, 31, 32, 33, 34, 35, 36, 37, 38, 39, 40, 41, 42, 43] (by decide +kernel) (by decide +kernel)
set_option maxRecDepth 20000 in
theorem gX9_counted_X9_least : GoodIn wsX9_counted (wsV RX9 143 RX9 yX9_least wsX9_least) := goodIn_app (goodIn_of _ (by decide +kernel)) ggX9_counted_X9_least
set_option maxRecDepth 20000 in
theorem ggX9_counted_X9_greatest : GoodIn wsX9_counted wsX9_greatest := goodIn_r _ [11, 6, 7, 20, 21, 22, 23, 24, 25, 26, 27, 28, 29, 30, 31, 32, 33, 34, 35, 36, 37, 38, 39, 40, 41, 42, 43] (by decide +kernel) (by decide +kernel)
set_option maxRecDepth 20000 in
theorem gX9_counted_X9_greatest : GoodIn wsX9_counted (wsV RX9 146 RX9 yX9_greatest wsX9_greatest) := goodIn_app (goodIn_of _ (by decide +kernel)) ggX9_counted_X9_greatest
set_option maxRecDepth 20000 in
theorem ggX9_counted_X9_where : GoodIn wsX9_counted wsX9_where := goodIn_r _ [15, 7, 16, 17, 18, 19, 20, 21, 22, 23, 24, 25, 26, 27, 28, 29, 30, 31, 32, 33, 34, 35, 36, 37, 38, 39, 40, 41, 42, 43] (by decide +kernel) (by decide +kernel)
set_option maxRecDepth 20000 in
theorem gX9_counted_X9_where : GoodIn wsX9_counted (wsV RX9 149 RX9 yX9_where wsX9_where) := goodIn_app (goodIn_of _ (by decide +kernel)) ggX9_counted_X9_where
theorem dX9_counted_0 : decode cX9_counted 0 = .ok (.iconst 0, 1) := by decide +kernel
theorem dX9_counted_1 : decode cX9_counted 1 = .ok (.istore 4, 2) := by decide +kernel
theorem dX9_counted_3 : decode cX9_counted 3 = .ok (.iload_n 2, 1) := by decide +kernel
theorem dX9_counted_4 : decode cX9_counted 4 = .ok (.aload_n 0, 1) := by decide +kernel
theorem dX9_counted_5 : decode cX9_counted 5 = .ok (.iload_n 1, 1) := by decide +kernel
theorem dX9_counted_6 : decode cX9_counted 6 = .ok (.iconst 1, 1) := by decide +kernel
theorem dX9_counted_7 : decode cX9_counted 7 = .ok (.invokevirtual 143, 3) := by decide +kernel
theorem dX9_counted_10 : decode cX9_counted 10 = .ok (.imul, 1) := by decide +kernel
theorem dX9_counted_11 : decode cX9_counted 11 = .ok (.istore 5, 2) := by decide +kernel
theorem dX9_counted_13 : decode cX9_counted 13 = .ok (.iload_n 2, 1) := by decide +kernel
theorem dX9_counted_14 : decode cX9_counted 14 = .ok (.aload_n 0, 1) := by decide +kernel
theorem dX9_counted_15 : decode cX9_counted 15 = .ok (.iload_n 1, 1) := by decide +kernel
theorem dX9_counted_16 : decode cX9_counted 16 = .ok (.iconst 2, 1) := by decide +kernel
theorem dX9_counted_17 : decode cX9_counted 17 = .ok (.invokevirtual 143, 3) := by decide +kernel
theorem dX9_counted_20 : decode cX9_counted 20 = .ok (.imul, 1) := by decide +kernel
theorem dX9_counted_21 : decode cX9_counted 21 = .ok (.istore 6, 2) := by decide +kernel
theorem dX9_counted_23 : decode cX9_counted 23 = .ok (.iload_n 2, 1) := by decide +kernel
theorem dX9_counted_24 : decode cX9_counted 24 = .ok (.aload_n 0, 1) := by decide +kernel
theorem dX9_counted_25 : decode cX9_counted 25 = .ok (.iload_n 1, 1) := by decide +kernel
theorem dX9_counted_26 : decode cX9_counted 26 = .ok (.iconst 0, 1) := by decide +kernel
theorem dX9_counted_27 : decode cX9_counted 27 = .ok (.invokevirtual 146, 3) := by decide +kernel
theorem dX9_counted_30 : decode cX9_counted 30 = .ok (.imul, 1) := by decide +kernel
theorem dX9_counted_31 : decode cX9_counted 31 = .ok (.istore 7, 2) := by decide +kernel
theorem dX9_counted_33 : decode cX9_counted 33 = .ok (.iload_n 2, 1) := by decide +kernel
theorem dX9_counted_34 : decode cX9_counted 34 = .ok (.aload_n 0, 1) := by decide +kernel
theorem dX9_counted_35 : decode cX9_counted 35 = .ok (.iload_n 1, 1) := by decide +kernel
theorem dX9_counted_36 : decode cX9_counted 36 = .ok (.iconst 1, 1) := by decide +kernel
theorem dX9_counted_37 : decode cX9_counted 37 = .ok (.invokevirtual 146, 3) := by decide +kernel
theorem dX9_counted_40 : decode cX9_counted 40 = .ok (.imul, 1) := by decide +kernel
theorem dX9_counted_41 : decode cX9_counted 41 = .ok (.istore 8, 2) := by decide +kernel
theorem dX9_counted_43 : decode cX9_counted 43 = .ok (.iload_n 2, 1) := by decide +kernel
theorem dX9_counted_44 : decode cX9_counted 44 = .ok (.aload_n 0, 1) := by decide +kernel
theorem dX9_counted_45 : decode cX9_counted 45 = .ok (.iload_n 1, 1) := by decide +kernel
theorem dX9_counted_46 : decode cX9_counted 46 = .ok (.iconst 2, 1) := by decide +kernel
theorem dX9_counted_47 : decode cX9_counted 47 = .ok (.invokevirtual 146, 3) := by decide +kernel
theorem dX9_counted_50 : decode cX9_counted 50 = .ok (.imul, 1) := by decide +kernel
theorem dX9_counted_51 : decode cX9_counted 51 = .ok (.istore 9, 2) := by decide +kernel
theorem dX9_counted_53 : decode cX9_counted 53 = .ok (.iload_n 2, 1) := by decide +kernel
theorem dX9_counted_54 : decode cX9_counted 54 = .ok (.aload_n 0, 1) := by decide +kernel
theorem dX9_counted_55 : decode cX9_counted 55 = .ok (.iload_n 1, 1) := by decide +kernel
theorem dX9_counted_56 : decode cX9_counted 56 = .ok (.iconst 0, 1) := by decide +kernel
theorem dX9_counted_57 : decode cX9_counted 57 = .ok (.invokevirtual 143, 3) := by decide +kernel
theorem dX9_counted_60 : decode cX9_counted 60 = .ok (.imul, 1) := by decide +kernel
theorem dX9_counted_61 : decode cX9_counted 61 = .ok (.istore 10, 2) := by decide +kernel
theorem dX9_counted_63 : decode cX9_counted 63 = .ok (.iload 10, 2) := by decide +kernel
theorem dX9_counted_65 : decode cX9_counted 65 = .ok (.iload 7, 2) := by decide +kernel
theorem dX9_counted_67 : decode cX9_counted 67 = .ok (.if_icmp .gt 73, 3) := by decide +kernel
theorem dX9_counted_70 : decode cX9_counted 70 = .ok (.iload 5, 2) := by decide +kernel
theorem dX9_counted_72 : decode cX9_counted 72 = .ok (.istore 11, 2) := by decide +kernel
theorem dX9_counted_74 : decode cX9_counted 74 = .ok (.iload 11, 2) := by decide +kernel
theorem dX9_counted_76 : decode cX9_counted 76 = .ok (.iload 8, 2) := by decide +kernel
theorem dX9_counted_78 : decode cX9_counted 78 = .ok (.if_icmp .gt 56, 3) := by decide +kernel
theorem dX9_counted_81 : decode cX9_counted 81 = .ok (.iload 6, 2) := by decide +kernel
theorem dX9_counted_83 : decode cX9_counted 83 = .ok (.istore 12, 2) := by decide +kernel
theorem dX9_counted_85 : decode cX9_counted 85 = .ok (.iload 12, 2) := by decide +kernel
theorem dX9_counted_87 : decode cX9_counted 87 = .ok (.iload 9, 2) := by decide +kernel
theorem dX9_counted_89 : decode cX9_counted 89 = .ok (.if_icmp .gt 39, 3) := by decide +kernel
theorem dX9_counted_92 : decode cX9_counted 92 = .ok (.iload 4, 2) := by decide +kernel
theorem dX9_counted_94 : decode cX9_counted 94 = .ok (.aload_n 0, 1) := by decide +kernel
theorem dX9_counted_95 : decode cX9_counted 95 = .ok (.iload_n 1, 1) := by decide +kernel
theorem dX9_counted_96 : decode cX9_counted 96 = .ok (.iload 10, 2) := by decide +kernel
theorem dX9_counted_98 : decode cX9_counted 98 = .ok (.i2l, 1) := by decide +kernel
theorem dX9_counted_99 : decode cX9_counted 99 = .ok (.iload 11, 2) := by decide +kernel
theorem dX9_counted_101 : decode cX9_counted 101 = .ok (.i2l, 1) := by decide +kernel
theorem dX9_counted_102 : decode cX9_counted 102 = .ok (.iload 12, 2) := by decide +kernel
theorem dX9_counted_104 : decode cX9_counted 104 = .ok (.i2l, 1) := by decide +kernel
theorem dX9_counted_105 : decode cX9_counted 105 = .ok (.iload_n 2, 1) := by decide +kernel
theorem dX9_counted_106 : decode cX9_counted 106 = .ok (.i2l, 1) := by decide +kernel
theorem dX9_counted_107 : decode cX9_counted 107 = .ok (.invokevirtual 149, 3) := by decide +kernel
theorem dX9_counted_110 : decode cX9_counted 110 = .ok (.iload_n 3, 1) := by decide +kernel
theorem dX9_counted_111 : decode cX9_counted 111 = .ok (.if_icmp .lt 7, 3) := by decide +kernel
theorem dX9_counted_114 : decode cX9_counted 114 = .ok (.iconst 1, 1) := by decide +kernel
theorem dX9_counted_115 : decode cX9_counted 115 = .ok (.goto 4, 3) := by decide +kernel
theorem dX9_counted_118 : decode cX9_counted 118 = .ok (.iconst 0, 1) := by decide +kernel
theorem dX9_counted_119 : decode cX9_counted 119 = .ok (.iadd, 1) := by decide +kernel
theorem dX9_counted_120 : decode cX9_counted 120 = .ok (.istore 4, 2) := by decide +kernel
theorem dX9_counted_122 : decode cX9_counted 122 = .ok (.iinc 12 1, 3) := by decide +kernel
theorem dX9_counted_125 : decode cX9_counted 125 = .ok (.goto (-40), 3) := by decide +kernel
theorem dX9_counted_128 : decode cX9_counted 128 = .ok (.iinc 11 1, 3) := by decide +kernel
theorem dX9_counted_131 : decode cX9_counted 131 = .ok (.goto (-57), 3) := by decide +kernel
theorem dX9_counted_134 : decode cX9_counted 134 = .ok (.iinc 10 1, 3) := by decide +kernel
theorem dX9_counted_137 : decode cX9_counted 137 = .ok (.goto (-74), 3) := by decide +kernel
theorem dX9_counted_140 : decode cX9_counted 140 = .ok (.iload 4, 2) := by decide +kernel
theorem dX9_counted_142 : decode cX9_counted 142 = .ok (.ireturn, 1) := by decide +kernel
set_option maxRecDepth 20000 in
theorem ggX9_countOf_X9_counted : GoodIn wsX9_countOf wsX9_counted := goodIn_r _ [5, 6, 7, 8, 4, 9, 10, 11, 12, 13, 14, 15, 16, 17, 18, 19, 20, 21, 22, 23, 24, 25, 26, 27, 28, 29, 30, 31, 32, 33, 34, 35, 36, 37, 38, 39, 40, 41, 42, 43, 44, 45, 46, 47] (by decide +kernel) (by decide +kernel)
set_option maxRecDepth 20000 in
theorem gX9_countOf_X9_counted : GoodIn wsX9_countOf (wsV RX9 153 RX9 yX9_counted wsX9_counted) := goodIn_app (goodIn_of _ (by decide +kernel)) ggX9_countOf_X9_counted
theorem dX9_countOf_0 : decode cX9_countOf 0 = .ok (.iload_n 2, 1) := by decide +kernel
theorem dX9_countOf_1 : decode cX9_countOf 1 = .ok (.ifCond .ne 7, 3) := by decide +kernel
theorem dX9_countOf_4 : decode cX9_countOf 4 = .ok (.iconst 1, 1) := by decide +kernel
theorem dX9_countOf_5 : decode cX9_countOf 5 = .ok (.goto 10, 3) := by decide +kernel
theorem dX9_countOf_8 : decode cX9_countOf 8 = .ok (.aload_n 0, 1) := by decide +kernel
theorem dX9_countOf_9 : decode cX9_countOf 9 = .ok (.iload_n 1, 1) := by decide +kernel
theorem dX9_countOf_10 : decode cX9_countOf 10 = .ok (.iload_n 2, 1) := by decide +kernel
theorem dX9_countOf_11 : decode cX9_countOf 11 = .ok (.iconst 1, 1) := by decide +kernel
theorem dX9_countOf_12 : decode cX9_countOf 12 = .ok (.invokevirtual 153, 3) := by decide +kernel
theorem dX9_countOf_15 : decode cX9_countOf 15 = .ok (.ireturn, 1) := by decide +kernel
set_option maxRecDepth 20000 in
theorem ggX9_isBrick_X9_least : GoodIn wsX9_isBrick wsX9_least := goodIn_r _ [7, 1, 2, 12, 13, 14, 15, 16, 17, 18, 19, 20, 21, 22, 23, 24, 25, 26, 27, 28, 29, 30, 31, 32, 33, 34, 35] (by decide +kernel) (by decide +kernel)
set_option maxRecDepth 20000 in
theorem gX9_isBrick_X9_least : GoodIn wsX9_isBrick (wsV RX9 143 RX9 yX9_least wsX9_least) := goodIn_app (goodIn_of _ (by decide +kernel)) ggX9_isBrick_X9_least
set_option maxRecDepth 20000 in
theorem ggX9_isBrick_X9_greatest : GoodIn wsX9_isBrick wsX9_greatest := goodIn_r _ [11, 1, 2, 12, 13, 14, 15, 16, 17, 18, 19, 20, 21, 22, 23, 24, 25, 26, 27, 28, 29, 30, 31, 32, 33, 34, 35] (by decide +kernel) (by decide +kernel)
set_option maxRecDepth 20000 in
theorem gX9_isBrick_X9_greatest : GoodIn wsX9_isBrick (wsV RX9 146 RX9 yX9_greatest wsX9_greatest) := goodIn_app (goodIn_of _ (by decide +kernel)) ggX9_isBrick_X9_greatest
theorem dX9_isBrick_0 : decode cX9_isBrick 0 = .ok (.iconst 1, 1) := by decide +kernel
theorem dX9_isBrick_1 : decode cX9_isBrick 1 = .ok (.istore_n 2, 1) := by decide +kernel
theorem dX9_isBrick_2 : decode cX9_isBrick 2 = .ok (.iconst 0, 1) := by decide +kernel
theorem dX9_isBrick_3 : decode cX9_isBrick 3 = .ok (.istore_n 3, 1) := by decide +kernel
theorem dX9_isBrick_4 : decode cX9_isBrick 4 = .ok (.iload_n 3, 1) := by decide +kernel
theorem dX9_isBrick_5 : decode cX9_isBrick 5 = .ok (.iconst 3, 1) := by decide +kernel
theorem dX9_isBrick_6 : decode cX9_isBrick 6 = .ok (.if_icmp .ge 32, 3) := by decide +kernel
theorem dX9_isBrick_9 : decode cX9_isBrick 9 = .ok (.iload_n 2, 1) := by decide +kernel
theorem dX9_isBrick_10 : decode cX9_isBrick 10 = .ok (.aload_n 0, 1) := by decide +kernel
theorem dX9_isBrick_11 : decode cX9_isBrick 11 = .ok (.iload_n 1, 1) := by decide +kernel
theorem dX9_isBrick_12 : decode cX9_isBrick 12 = .ok (.iload_n 3, 1) := by decide +kernel
theorem dX9_isBrick_13 : decode cX9_isBrick 13 = .ok (.invokevirtual 143, 3) := by decide +kernel
theorem dX9_isBrick_16 : decode cX9_isBrick 16 = .ok (.aload_n 0, 1) := by decide +kernel
theorem dX9_isBrick_17 : decode cX9_isBrick 17 = .ok (.iload_n 1, 1) := by decide +kernel
theorem dX9_isBrick_18 : decode cX9_isBrick 18 = .ok (.iload_n 3, 1) := by decide +kernel
theorem dX9_isBrick_19 : decode cX9_isBrick 19 = .ok (.invokevirtual 146, 3) := by decide +kernel
theorem dX9_isBrick_22 : decode cX9_isBrick 22 = .ok (.if_icmp .ne 7, 3) := by decide +kernel
theorem dX9_isBrick_25 : decode cX9_isBrick 25 = .ok (.iconst 1, 1) := by decide +kernel
theorem dX9_isBrick_26 : decode cX9_isBrick 26 = .ok (.goto 4, 3) := by decide +kernel
theorem dX9_isBrick_29 : decode cX9_isBrick 29 = .ok (.iconst 2, 1) := by decide +kernel
theorem dX9_isBrick_30 : decode cX9_isBrick 30 = .ok (.imul, 1) := by decide +kernel
theorem dX9_isBrick_31 : decode cX9_isBrick 31 = .ok (.istore_n 2, 1) := by decide +kernel
theorem dX9_isBrick_32 : decode cX9_isBrick 32 = .ok (.iinc 3 1, 3) := by decide +kernel
theorem dX9_isBrick_35 : decode cX9_isBrick 35 = .ok (.goto (-31), 3) := by decide +kernel
theorem dX9_isBrick_38 : decode cX9_isBrick 38 = .ok (.iload_n 2, 1) := by decide +kernel
theorem dX9_isBrick_39 : decode cX9_isBrick 39 = .ok (.aload_n 0, 1) := by decide +kernel
theorem dX9_isBrick_40 : decode cX9_isBrick 40 = .ok (.getfield 26, 3) := by decide +kernel
theorem dX9_isBrick_43 : decode cX9_isBrick 43 = .ok (.iload_n 1, 1) := by decide +kernel
theorem dX9_isBrick_44 : decode cX9_isBrick 44 = .ok (.iaload, 1) := by decide +kernel
theorem dX9_isBrick_45 : decode cX9_isBrick 45 = .ok (.if_icmp .ne 7, 3) := by decide +kernel
theorem dX9_isBrick_48 : decode cX9_isBrick 48 = .ok (.iconst 1, 1) := by decide +kernel
theorem dX9_isBrick_49 : decode cX9_isBrick 49 = .ok (.goto 4, 3) := by decide +kernel
theorem dX9_isBrick_52 : decode cX9_isBrick 52 = .ok (.iconst 0, 1) := by decide +kernel
theorem dX9_isBrick_53 : decode cX9_isBrick 53 = .ok (.istore_n 3, 1) := by decide +kernel
theorem dX9_isBrick_54 : decode cX9_isBrick 54 = .ok (.iconst 0, 1) := by decide +kernel
theorem dX9_isBrick_55 : decode cX9_isBrick 55 = .ok (.istore 4, 2) := by decide +kernel
theorem dX9_isBrick_57 : decode cX9_isBrick 57 = .ok (.iload 4, 2) := by decide +kernel
theorem dX9_isBrick_59 : decode cX9_isBrick 59 = .ok (.iconst 3, 1) := by decide +kernel
theorem dX9_isBrick_60 : decode cX9_isBrick 60 = .ok (.aload_n 0, 1) := by decide +kernel
theorem dX9_isBrick_61 : decode cX9_isBrick 61 = .ok (.getfield 26, 3) := by decide +kernel
theorem dX9_isBrick_64 : decode cX9_isBrick 64 = .ok (.iload_n 1, 1) := by decide +kernel
theorem dX9_isBrick_65 : decode cX9_isBrick 65 = .ok (.iaload, 1) := by decide +kernel
theorem dX9_isBrick_66 : decode cX9_isBrick 66 = .ok (.imul, 1) := by decide +kernel
theorem dX9_isBrick_67 : decode cX9_isBrick 67 = .ok (.if_icmp .ge 61, 3) := by decide +kernel
theorem dX9_isBrick_70 : decode cX9_isBrick 70 = .ok (.aload_n 0, 1) := by decide +kernel
theorem dX9_isBrick_71 : decode cX9_isBrick 71 = .ok (.getfield 29, 3) := by decide +kernel
theorem dX9_isBrick_74 : decode cX9_isBrick 74 = .ok (.bipush 120, 2) := by decide +kernel
theorem dX9_isBrick_76 : decode cX9_isBrick 76 = .ok (.iload_n 1, 1) := by decide +kernel
theorem dX9_isBrick_77 : decode cX9_isBrick 77 = .ok (.imul, 1) := by decide +kernel
theorem dX9_isBrick_78 : decode cX9_isBrick 78 = .ok (.iload 4, 2) := by decide +kernel
theorem dX9_isBrick_80 : decode cX9_isBrick 80 = .ok (.iadd, 1) := by decide +kernel
theorem dX9_isBrick_81 : decode cX9_isBrick 81 = .ok (.iaload, 1) := by decide +kernel
theorem dX9_isBrick_82 : decode cX9_isBrick 82 = .ok (.istore 5, 2) := by decide +kernel
theorem dX9_isBrick_84 : decode cX9_isBrick 84 = .ok (.iload_n 3, 1) := by decide +kernel
theorem dX9_isBrick_85 : decode cX9_isBrick 85 = .ok (.ifCond .eq 35, 3) := by decide +kernel
theorem dX9_isBrick_88 : decode cX9_isBrick 88 = .ok (.iload 5, 2) := by decide +kernel
theorem dX9_isBrick_90 : decode cX9_isBrick 90 = .ok (.aload_n 0, 1) := by decide +kernel
theorem dX9_isBrick_91 : decode cX9_isBrick 91 = .ok (.iload_n 1, 1) := by decide +kernel
theorem dX9_isBrick_92 : decode cX9_isBrick 92 = .ok (.iload 4, 2) := by decide +kernel
theorem dX9_isBrick_94 : decode cX9_isBrick 94 = .ok (.iconst 3, 1) := by decide +kernel
theorem dX9_isBrick_95 : decode cX9_isBrick 95 = .ok (.irem, 1) := by decide +kernel
theorem dX9_isBrick_96 : decode cX9_isBrick 96 = .ok (.invokevirtual 143, 3) := by decide +kernel
theorem dX9_isBrick_99 : decode cX9_isBrick 99 = .ok (.if_icmp .eq 17, 3) := by decide +kernel
theorem dX9_isBrick_102 : decode cX9_isBrick 102 = .ok (.iload 5, 2) := by decide +kernel
theorem dX9_isBrick_104 : decode cX9_isBrick 104 = .ok (.aload_n 0, 1) := by decide +kernel
theorem dX9_isBrick_105 : decode cX9_isBrick 105 = .ok (.iload_n 1, 1) := by decide +kernel
theorem dX9_isBrick_106 : decode cX9_isBrick 106 = .ok (.iload 4, 2) := by decide +kernel
theorem dX9_isBrick_108 : decode cX9_isBrick 108 = .ok (.iconst 3, 1) := by decide +kernel
theorem dX9_isBrick_109 : decode cX9_isBrick 109 = .ok (.irem, 1) := by decide +kernel
theorem dX9_isBrick_110 : decode cX9_isBrick 110 = .ok (.invokevirtual 146, 3) := by decide +kernel
theorem dX9_isBrick_113 : decode cX9_isBrick 113 = .ok (.if_icmp .ne 7, 3) := by decide +kernel
theorem dX9_isBrick_116 : decode cX9_isBrick 116 = .ok (.iconst 1, 1) := by decide +kernel
theorem dX9_isBrick_117 : decode cX9_isBrick 117 = .ok (.goto 4, 3) := by decide +kernel
theorem dX9_isBrick_120 : decode cX9_isBrick 120 = .ok (.iconst 0, 1) := by decide +kernel
theorem dX9_isBrick_121 : decode cX9_isBrick 121 = .ok (.istore_n 3, 1) := by decide +kernel
theorem dX9_isBrick_122 : decode cX9_isBrick 122 = .ok (.iinc 4 1, 3) := by decide +kernel
theorem dX9_isBrick_125 : decode cX9_isBrick 125 = .ok (.goto (-68), 3) := by decide +kernel
theorem dX9_isBrick_128 : decode cX9_isBrick 128 = .ok (.iload_n 3, 1) := by decide +kernel
theorem dX9_isBrick_129 : decode cX9_isBrick 129 = .ok (.ireturn, 1) := by decide +kernel
set_option maxRecDepth 20000 in
theorem ggX9_isMirror_X9_least : GoodIn wsX9_isMirror wsX9_least := goodIn_r _ [5, 6, 7, 12, 13, 14, 15, 16, 17, 18, 19, 20, 21, 22, 23, 24, 25, 26, 27, 28, 29, 30, 31, 32, 33, 34, 35] (by decide +kernel) (by decide +kernel)
set_option maxRecDepth 20000 in
theorem gX9_isMirror_X9_least : GoodIn wsX9_isMirror (wsV RX9 143 RX9 yX9_least wsX9_least) := goodIn_app (goodIn_of _ (by decide +kernel)) ggX9_isMirror_X9_least
set_option maxRecDepth 20000 in
theorem ggX9_isMirror_X9_greatest : GoodIn wsX9_isMirror wsX9_greatest := goodIn_r _ [11, 6, 7, 12, 13, 14, 15, 16, 17, 18, 19, 20, 21, 22, 23, 24, 25, 26, 27, 28, 29, 30, 31, 32, 33, 34, 35] (by decide +kernel) (by decide +kernel)
set_option maxRecDepth 20000 in
theorem gX9_isMirror_X9_greatest : GoodIn wsX9_isMirror (wsV RX9 146 RX9 yX9_greatest wsX9_greatest) := goodIn_app (goodIn_of _ (by decide +kernel)) ggX9_isMirror_X9_greatest
theorem dX9_isMirror_0 : decode cX9_isMirror 0 = .ok (.iconst 1, 1) := by decide +kernel
theorem dX9_isMirror_1 : decode cX9_isMirror 1 = .ok (.istore_n 2, 1) := by decide +kernel
theorem dX9_isMirror_2 : decode cX9_isMirror 2 = .ok (.iconst 0, 1) := by decide +kernel
theorem dX9_isMirror_3 : decode cX9_isMirror 3 = .ok (.istore_n 3, 1) := by decide +kernel
theorem dX9_isMirror_4 : decode cX9_isMirror 4 = .ok (.iload_n 3, 1) := by decide +kernel
theorem dX9_isMirror_5 : decode cX9_isMirror 5 = .ok (.iconst 3, 1) := by decide +kernel
theorem dX9_isMirror_6 : decode cX9_isMirror 6 = .ok (.if_icmp .ge 35, 3) := by decide +kernel
theorem dX9_isMirror_9 : decode cX9_isMirror 9 = .ok (.iload_n 2, 1) := by decide +kernel
theorem dX9_isMirror_10 : decode cX9_isMirror 10 = .ok (.ifCond .eq 23, 3) := by decide +kernel
theorem dX9_isMirror_13 : decode cX9_isMirror 13 = .ok (.aload_n 0, 1) := by decide +kernel
theorem dX9_isMirror_14 : decode cX9_isMirror 14 = .ok (.iload_n 1, 1) := by decide +kernel
theorem dX9_isMirror_15 : decode cX9_isMirror 15 = .ok (.iload_n 3, 1) := by decide +kernel
theorem dX9_isMirror_16 : decode cX9_isMirror 16 = .ok (.invokevirtual 143, 3) := by decide +kernel
theorem dX9_isMirror_19 : decode cX9_isMirror 19 = .ok (.aload_n 0, 1) := by decide +kernel
theorem dX9_isMirror_20 : decode cX9_isMirror 20 = .ok (.iload_n 1, 1) := by decide +kernel
theorem dX9_isMirror_21 : decode cX9_isMirror 21 = .ok (.iload_n 3, 1) := by decide +kernel
theorem dX9_isMirror_22 : decode cX9_isMirror 22 = .ok (.invokevirtual 146, 3) := by decide +kernel
theorem dX9_isMirror_25 : decode cX9_isMirror 25 = .ok (.ineg, 1) := by decide +kernel
theorem dX9_isMirror_26 : decode cX9_isMirror 26 = .ok (.if_icmp .ne 7, 3) := by decide +kernel
theorem dX9_isMirror_29 : decode cX9_isMirror 29 = .ok (.iconst 1, 1) := by decide +kernel
theorem dX9_isMirror_30 : decode cX9_isMirror 30 = .ok (.goto 4, 3) := by decide +kernel
theorem dX9_isMirror_33 : decode cX9_isMirror 33 = .ok (.iconst 0, 1) := by decide +kernel
theorem dX9_isMirror_34 : decode cX9_isMirror 34 = .ok (.istore_n 2, 1) := by decide +kernel
theorem dX9_isMirror_35 : decode cX9_isMirror 35 = .ok (.iinc 3 1, 3) := by decide +kernel
theorem dX9_isMirror_38 : decode cX9_isMirror 38 = .ok (.goto (-34), 3) := by decide +kernel
theorem dX9_isMirror_41 : decode cX9_isMirror 41 = .ok (.iload_n 2, 1) := by decide +kernel
theorem dX9_isMirror_42 : decode cX9_isMirror 42 = .ok (.ireturn, 1) := by decide +kernel
set_option maxRecDepth 20000 in
theorem ggX9_about_X9_is : GoodIn wsX9_about wsX9_is := goodIn_r _ [9, 10, 11, 12, 8, 13, 31, 32, 33, 34, 35, 36, 37, 38, 39, 40, 41, 42, 43, 44, 45, 46, 47, 48, 49, 50, 51, 52, 53, 54] (by decide +kernel) (by decide +kernel)
set_option maxRecDepth 20000 in
theorem gX9_about_X9_is : GoodIn wsX9_about (wsV RX9 157 RX9 yX9_is wsX9_is) := goodIn_app (goodIn_of _ (by decide +kernel)) ggX9_about_X9_is
set_option maxRecDepth 20000 in
theorem ggX9_about_X9_isBrick : GoodIn wsX9_about wsX9_isBrick := goodIn_r _ [17, 1, 18, 19, 20, 21, 8, 22, 23, 24, 25, 26, 31, 32, 33, 34, 35, 36, 37, 38, 39, 40, 41, 42, 43, 44, 45, 46, 47, 48, 49, 50, 51, 52, 53, 54] (by decide +kernel) (by decide +kernel)
set_option maxRecDepth 20000 in
theorem gX9_about_X9_isBrick : GoodIn wsX9_about (wsV RX9 160 RX9 yX9_isBrick wsX9_isBrick) := goodIn_app (goodIn_of _ (by decide +kernel)) ggX9_about_X9_isBrick
set_option maxRecDepth 20000 in
theorem ggX9_about_X9_isMirror : GoodIn wsX9_about wsX9_isMirror := goodIn_r _ [30, 19, 20, 21, 8, 22, 1, 18, 23, 24, 25, 26, 31, 32, 33, 34, 35, 36, 37, 38, 39, 40, 41, 42, 43, 44, 45, 46, 47, 48, 49, 50, 51, 52, 53, 54] (by decide +kernel) (by decide +kernel)
set_option maxRecDepth 20000 in
theorem gX9_about_X9_isMirror : GoodIn wsX9_about (wsV RX9 163 RX9 yX9_isMirror wsX9_isMirror) := goodIn_app (goodIn_of _ (by decide +kernel)) ggX9_about_X9_isMirror
theorem dX9_about_0 : decode cX9_about 0 = .ok (.aload_n 0, 1) := by decide +kernel
theorem dX9_about_1 : decode cX9_about 1 = .ok (.iload_n 1, 1) := by decide +kernel
theorem dX9_about_2 : decode cX9_about 2 = .ok (.invokevirtual 157, 3) := by decide +kernel
theorem dX9_about_5 : decode cX9_about 5 = .ok (.ifCond .ne 5, 3) := by decide +kernel
theorem dX9_about_8 : decode cX9_about 8 = .ok (.iconst (-1), 1) := by decide +kernel
theorem dX9_about_9 : decode cX9_about 9 = .ok (.ireturn, 1) := by decide +kernel
theorem dX9_about_10 : decode cX9_about 10 = .ok (.iload_n 2, 1) := by decide +kernel
theorem dX9_about_11 : decode cX9_about 11 = .ok (.tableswitch 122 0 4 #[33, 94, 101, 108, 115], 33) := by decide +kernel
theorem dX9_about_44 : decode cX9_about 44 = .ok (.aload_n 0, 1) := by decide +kernel
theorem dX9_about_45 : decode cX9_about 45 = .ok (.iload_n 1, 1) := by decide +kernel
theorem dX9_about_46 : decode cX9_about 46 = .ok (.invokevirtual 160, 3) := by decide +kernel
theorem dX9_about_49 : decode cX9_about 49 = .ok (.ifCond .eq 19, 3) := by decide +kernel
theorem dX9_about_52 : decode cX9_about 52 = .ok (.aload_n 0, 1) := by decide +kernel
theorem dX9_about_53 : decode cX9_about 53 = .ok (.iload_n 1, 1) := by decide +kernel
theorem dX9_about_54 : decode cX9_about 54 = .ok (.invokevirtual 163, 3) := by decide +kernel
theorem dX9_about_57 : decode cX9_about 57 = .ok (.ifCond .eq 7, 3) := by decide +kernel
theorem dX9_about_60 : decode cX9_about 60 = .ok (.iconst 4, 1) := by decide +kernel
theorem dX9_about_61 : decode cX9_about 61 = .ok (.goto 43, 3) := by decide +kernel
theorem dX9_about_64 : decode cX9_about 64 = .ok (.iconst 3, 1) := by decide +kernel
theorem dX9_about_65 : decode cX9_about 65 = .ok (.goto 39, 3) := by decide +kernel
theorem dX9_about_68 : decode cX9_about 68 = .ok (.aload_n 0, 1) := by decide +kernel
theorem dX9_about_69 : decode cX9_about 69 = .ok (.getfield 26, 3) := by decide +kernel
theorem dX9_about_72 : decode cX9_about 72 = .ok (.iload_n 1, 1) := by decide +kernel
theorem dX9_about_73 : decode cX9_about 73 = .ok (.iaload, 1) := by decide +kernel
theorem dX9_about_74 : decode cX9_about 74 = .ok (.aload_n 0, 1) := by decide +kernel
theorem dX9_about_75 : decode cX9_about 75 = .ok (.getfield 23, 3) := by decide +kernel
theorem dX9_about_78 : decode cX9_about 78 = .ok (.iload_n 1, 1) := by decide +kernel
theorem dX9_about_79 : decode cX9_about 79 = .ok (.iaload, 1) := by decide +kernel
theorem dX9_about_80 : decode cX9_about 80 = .ok (.iconst 1, 1) := by decide +kernel
theorem dX9_about_81 : decode cX9_about 81 = .ok (.iadd, 1) := by decide +kernel
theorem dX9_about_82 : decode cX9_about 82 = .ok (.if_icmp .ne 7, 3) := by decide +kernel
theorem dX9_about_85 : decode cX9_about 85 = .ok (.iconst 2, 1) := by decide +kernel
theorem dX9_about_86 : decode cX9_about 86 = .ok (.goto 18, 3) := by decide +kernel
theorem dX9_about_89 : decode cX9_about 89 = .ok (.aload_n 0, 1) := by decide +kernel
theorem dX9_about_90 : decode cX9_about 90 = .ok (.getfield 23, 3) := by decide +kernel
theorem dX9_about_93 : decode cX9_about 93 = .ok (.iload_n 1, 1) := by decide +kernel
theorem dX9_about_94 : decode cX9_about 94 = .ok (.iaload, 1) := by decide +kernel
theorem dX9_about_95 : decode cX9_about 95 = .ok (.iconst 3, 1) := by decide +kernel
theorem dX9_about_96 : decode cX9_about 96 = .ok (.if_icmp .ge 7, 3) := by decide +kernel
theorem dX9_about_99 : decode cX9_about 99 = .ok (.iconst 1, 1) := by decide +kernel
theorem dX9_about_100 : decode cX9_about 100 = .ok (.goto 4, 3) := by decide +kernel
theorem dX9_about_103 : decode cX9_about 103 = .ok (.iconst 0, 1) := by decide +kernel
theorem dX9_about_104 : decode cX9_about 104 = .ok (.ireturn, 1) := by decide +kernel
theorem dX9_about_105 : decode cX9_about 105 = .ok (.aload_n 0, 1) := by decide +kernel
theorem dX9_about_106 : decode cX9_about 106 = .ok (.getfield 23, 3) := by decide +kernel
theorem dX9_about_109 : decode cX9_about 109 = .ok (.iload_n 1, 1) := by decide +kernel
theorem dX9_about_110 : decode cX9_about 110 = .ok (.iaload, 1) := by decide +kernel
theorem dX9_about_111 : decode cX9_about 111 = .ok (.ireturn, 1) := by decide +kernel
theorem dX9_about_112 : decode cX9_about 112 = .ok (.aload_n 0, 1) := by decide +kernel
theorem dX9_about_113 : decode cX9_about 113 = .ok (.getfield 26, 3) := by decide +kernel
theorem dX9_about_116 : decode cX9_about 116 = .ok (.iload_n 1, 1) := by decide +kernel
theorem dX9_about_117 : decode cX9_about 117 = .ok (.iaload, 1) := by decide +kernel
theorem dX9_about_118 : decode cX9_about 118 = .ok (.ireturn, 1) := by decide +kernel
theorem dX9_about_119 : decode cX9_about 119 = .ok (.aload_n 0, 1) := by decide +kernel
theorem dX9_about_120 : decode cX9_about 120 = .ok (.getfield 32, 3) := by decide +kernel
theorem dX9_about_123 : decode cX9_about 123 = .ok (.iload_n 1, 1) := by decide +kernel
theorem dX9_about_124 : decode cX9_about 124 = .ok (.iaload, 1) := by decide +kernel
theorem dX9_about_125 : decode cX9_about 125 = .ok (.ireturn, 1) := by decide +kernel
theorem dX9_about_126 : decode cX9_about 126 = .ok (.aload_n 0, 1) := by decide +kernel
theorem dX9_about_127 : decode cX9_about 127 = .ok (.getfield 38, 3) := by decide +kernel
theorem dX9_about_130 : decode cX9_about 130 = .ok (.iload_n 1, 1) := by decide +kernel
theorem dX9_about_131 : decode cX9_about 131 = .ok (.iaload, 1) := by decide +kernel
theorem dX9_about_132 : decode cX9_about 132 = .ok (.ireturn, 1) := by decide +kernel
theorem dX9_about_133 : decode cX9_about 133 = .ok (.iconst (-1), 1) := by decide +kernel
theorem dX9_about_134 : decode cX9_about 134 = .ok (.ireturn, 1) := by decide +kernel
set_option maxRecDepth 20000 in
theorem ggX9_cornerOf_X9_is : GoodIn wsX9_cornerOf wsX9_is := goodIn_r _ [8, 9, 10, 11, 7, 12, 13, 14, 15, 16, 17, 18, 19, 20, 21, 22, 23, 24, 25, 26, 27, 28, 29, 30, 31, 32, 33, 34, 35, 36] (by decide +kernel) (by decide +kernel)
set_option maxRecDepth 20000 in
theorem gX9_cornerOf_X9_is : GoodIn wsX9_cornerOf (wsV RX9 157 RX9 yX9_is wsX9_is) := goodIn_app (goodIn_of _ (by decide +kernel)) ggX9_cornerOf_X9_is
set_option maxRecDepth 20000 in
theorem ggX9_cornerOf_X9_in : GoodIn wsX9_cornerOf wsX9_in := goodIn_r _ [12] (by decide +kernel) (by decide +kernel)
set_option maxRecDepth 20000 in
theorem gX9_cornerOf_X9_in : GoodIn wsX9_cornerOf (va_wsS RX9 60 yX9_in wsX9_in) := goodIn_app (goodIn_of _ (by decide +kernel)) ggX9_cornerOf_X9_in
theorem dX9_cornerOf_0 : decode cX9_cornerOf 0 = .ok (.aload_n 0, 1) := by decide +kernel
theorem dX9_cornerOf_1 : decode cX9_cornerOf 1 = .ok (.iload_n 1, 1) := by decide +kernel
theorem dX9_cornerOf_2 : decode cX9_cornerOf 2 = .ok (.invokevirtual 157, 3) := by decide +kernel
theorem dX9_cornerOf_5 : decode cX9_cornerOf 5 = .ok (.ifCond .eq 51, 3) := by decide +kernel
theorem dX9_cornerOf_8 : decode cX9_cornerOf 8 = .ok (.iload_n 2, 1) := by decide +kernel
theorem dX9_cornerOf_9 : decode cX9_cornerOf 9 = .ok (.i2l, 1) := by decide +kernel
theorem dX9_cornerOf_10 : decode cX9_cornerOf 10 = .ok (.lconst 0, 1) := by decide +kernel
theorem dX9_cornerOf_11 : decode cX9_cornerOf 11 = .ok (.aload_n 0, 1) := by decide +kernel
theorem dX9_cornerOf_12 : decode cX9_cornerOf 12 = .ok (.getfield 26, 3) := by decide +kernel
theorem dX9_cornerOf_15 : decode cX9_cornerOf 15 = .ok (.iload_n 1, 1) := by decide +kernel
theorem dX9_cornerOf_16 : decode cX9_cornerOf 16 = .ok (.iaload, 1) := by decide +kernel
theorem dX9_cornerOf_17 : decode cX9_cornerOf 17 = .ok (.iconst 1, 1) := by decide +kernel
theorem dX9_cornerOf_18 : decode cX9_cornerOf 18 = .ok (.isub, 1) := by decide +kernel
theorem dX9_cornerOf_19 : decode cX9_cornerOf 19 = .ok (.i2l, 1) := by decide +kernel
theorem dX9_cornerOf_20 : decode cX9_cornerOf 20 = .ok (.invokestatic 60, 3) := by decide +kernel
theorem dX9_cornerOf_23 : decode cX9_cornerOf 23 = .ok (.ifCond .eq 33, 3) := by decide +kernel
theorem dX9_cornerOf_26 : decode cX9_cornerOf 26 = .ok (.iload_n 3, 1) := by decide +kernel
theorem dX9_cornerOf_27 : decode cX9_cornerOf 27 = .ok (.i2l, 1) := by decide +kernel
theorem dX9_cornerOf_28 : decode cX9_cornerOf 28 = .ok (.lconst 0, 1) := by decide +kernel
theorem dX9_cornerOf_29 : decode cX9_cornerOf 29 = .ok (.ldc2_w 166, 3) := by decide +kernel
theorem dX9_cornerOf_32 : decode cX9_cornerOf 32 = .ok (.invokestatic 60, 3) := by decide +kernel
theorem dX9_cornerOf_35 : decode cX9_cornerOf 35 = .ok (.ifCond .eq 21, 3) := by decide +kernel
theorem dX9_cornerOf_38 : decode cX9_cornerOf 38 = .ok (.aload_n 0, 1) := by decide +kernel
theorem dX9_cornerOf_39 : decode cX9_cornerOf 39 = .ok (.getfield 29, 3) := by decide +kernel
theorem dX9_cornerOf_42 : decode cX9_cornerOf 42 = .ok (.bipush 120, 2) := by decide +kernel
theorem dX9_cornerOf_44 : decode cX9_cornerOf 44 = .ok (.iload_n 1, 1) := by decide +kernel
theorem dX9_cornerOf_45 : decode cX9_cornerOf 45 = .ok (.imul, 1) := by decide +kernel
theorem dX9_cornerOf_46 : decode cX9_cornerOf 46 = .ok (.iconst 3, 1) := by decide +kernel
theorem dX9_cornerOf_47 : decode cX9_cornerOf 47 = .ok (.iload_n 2, 1) := by decide +kernel
theorem dX9_cornerOf_48 : decode cX9_cornerOf 48 = .ok (.imul, 1) := by decide +kernel
theorem dX9_cornerOf_49 : decode cX9_cornerOf 49 = .ok (.iadd, 1) := by decide +kernel
theorem dX9_cornerOf_50 : decode cX9_cornerOf 50 = .ok (.iload_n 3, 1) := by decide +kernel
theorem dX9_cornerOf_51 : decode cX9_cornerOf 51 = .ok (.iadd, 1) := by decide +kernel
theorem dX9_cornerOf_52 : decode cX9_cornerOf 52 = .ok (.iaload, 1) := by decide +kernel
theorem dX9_cornerOf_53 : decode cX9_cornerOf 53 = .ok (.goto 6, 3) := by decide +kernel
theorem dX9_cornerOf_56 : decode cX9_cornerOf 56 = .ok (.sipush 1000, 3) := by decide +kernel
theorem dX9_cornerOf_59 : decode cX9_cornerOf 59 = .ok (.ireturn, 1) := by decide +kernel
set_option maxRecDepth 20000 in
theorem ggX9_side__X9_is : GoodIn wsX9_side_ wsX9_is := goodIn_r _ [10, 11, 12, 13, 9, 14, 15, 16, 17, 18, 19, 20, 21, 22, 23, 24, 25, 26, 27, 28, 29, 30, 31, 32, 33, 34, 35, 36, 37, 38] (by decide +kernel) (by decide +kernel)
set_option maxRecDepth 20000 in
theorem gX9_side__X9_is : GoodIn wsX9_side_ (wsV RX9 157 RX9 yX9_is wsX9_is) := goodIn_app (goodIn_of _ (by decide +kernel)) ggX9_side__X9_is
set_option maxRecDepth 20000 in
theorem ggX9_side__X9_in : GoodIn wsX9_side_ wsX9_in := goodIn_r _ [14] (by decide +kernel) (by decide +kernel)
set_option maxRecDepth 20000 in
theorem gX9_side__X9_in : GoodIn wsX9_side_ (va_wsS RX9 60 yX9_in wsX9_in) := goodIn_app (goodIn_of _ (by decide +kernel)) ggX9_side__X9_in
theorem dX9_side__0 : decode cX9_side_ 0 = .ok (.aload_n 0, 1) := by decide +kernel
theorem dX9_side__1 : decode cX9_side_ 1 = .ok (.iload_n 1, 1) := by decide +kernel
theorem dX9_side__2 : decode cX9_side_ 2 = .ok (.invokevirtual 157, 3) := by decide +kernel
theorem dX9_side__5 : decode cX9_side_ 5 = .ok (.ifCond .eq 15, 3) := by decide +kernel
theorem dX9_side__8 : decode cX9_side_ 8 = .ok (.iload_n 3, 1) := by decide +kernel
theorem dX9_side__9 : decode cX9_side_ 9 = .ok (.i2l, 1) := by decide +kernel
theorem dX9_side__10 : decode cX9_side_ 10 = .ok (.lconst 0, 1) := by decide +kernel
theorem dX9_side__11 : decode cX9_side_ 11 = .ok (.ldc2_w 72, 3) := by decide +kernel
theorem dX9_side__14 : decode cX9_side_ 14 = .ok (.invokestatic 60, 3) := by decide +kernel
theorem dX9_side__17 : decode cX9_side_ 17 = .ok (.ifCond .ne 7, 3) := by decide +kernel
theorem dX9_side__20 : decode cX9_side_ 20 = .ok (.sipush 1000, 3) := by decide +kernel
theorem dX9_side__23 : decode cX9_side_ 23 = .ok (.ireturn, 1) := by decide +kernel
theorem dX9_side__24 : decode cX9_side_ 24 = .ok (.iload_n 2, 1) := by decide +kernel
theorem dX9_side__25 : decode cX9_side_ 25 = .ok (.bipush (-4), 2) := by decide +kernel
theorem dX9_side__27 : decode cX9_side_ 27 = .ok (.if_icmp .ne 30, 3) := by decide +kernel
theorem dX9_side__30 : decode cX9_side_ 30 = .ok (.aload_n 0, 1) := by decide +kernel
theorem dX9_side__31 : decode cX9_side_ 31 = .ok (.getfield 23, 3) := by decide +kernel
theorem dX9_side__34 : decode cX9_side_ 34 = .ok (.iload_n 1, 1) := by decide +kernel
theorem dX9_side__35 : decode cX9_side_ 35 = .ok (.iaload, 1) := by decide +kernel
theorem dX9_side__36 : decode cX9_side_ 36 = .ok (.iconst 2, 1) := by decide +kernel
theorem dX9_side__37 : decode cX9_side_ 37 = .ok (.if_icmp .ne 16, 3) := by decide +kernel
theorem dX9_side__40 : decode cX9_side_ 40 = .ok (.aload_n 0, 1) := by decide +kernel
theorem dX9_side__41 : decode cX9_side_ 41 = .ok (.getfield 41, 3) := by decide +kernel
theorem dX9_side__44 : decode cX9_side_ 44 = .ok (.iconst 4, 1) := by decide +kernel
theorem dX9_side__45 : decode cX9_side_ 45 = .ok (.iload_n 1, 1) := by decide +kernel
theorem dX9_side__46 : decode cX9_side_ 46 = .ok (.imul, 1) := by decide +kernel
theorem dX9_side__47 : decode cX9_side_ 47 = .ok (.iload_n 3, 1) := by decide +kernel
theorem dX9_side__48 : decode cX9_side_ 48 = .ok (.iadd, 1) := by decide +kernel
theorem dX9_side__49 : decode cX9_side_ 49 = .ok (.iaload, 1) := by decide +kernel
theorem dX9_side__50 : decode cX9_side_ 50 = .ok (.goto 6, 3) := by decide +kernel
theorem dX9_side__53 : decode cX9_side_ 53 = .ok (.sipush 1000, 3) := by decide +kernel
theorem dX9_side__56 : decode cX9_side_ 56 = .ok (.ireturn, 1) := by decide +kernel
theorem dX9_side__57 : decode cX9_side_ 57 = .ok (.iload_n 2, 1) := by decide +kernel
theorem dX9_side__58 : decode cX9_side_ 58 = .ok (.i2l, 1) := by decide +kernel
theorem dX9_side__59 : decode cX9_side_ 59 = .ok (.lconst 0, 1) := by decide +kernel
theorem dX9_side__60 : decode cX9_side_ 60 = .ok (.aload_n 0, 1) := by decide +kernel
theorem dX9_side__61 : decode cX9_side_ 61 = .ok (.getfield 32, 3) := by decide +kernel
theorem dX9_side__64 : decode cX9_side_ 64 = .ok (.iload_n 1, 1) := by decide +kernel
theorem dX9_side__65 : decode cX9_side_ 65 = .ok (.iaload, 1) := by decide +kernel
theorem dX9_side__66 : decode cX9_side_ 66 = .ok (.iconst 1, 1) := by decide +kernel
theorem dX9_side__67 : decode cX9_side_ 67 = .ok (.isub, 1) := by decide +kernel
theorem dX9_side__68 : decode cX9_side_ 68 = .ok (.i2l, 1) := by decide +kernel
theorem dX9_side__69 : decode cX9_side_ 69 = .ok (.invokestatic 60, 3) := by decide +kernel
theorem dX9_side__72 : decode cX9_side_ 72 = .ok (.ifCond .eq 22, 3) := by decide +kernel
theorem dX9_side__75 : decode cX9_side_ 75 = .ok (.aload_n 0, 1) := by decide +kernel
theorem dX9_side__76 : decode cX9_side_ 76 = .ok (.getfield 35, 3) := by decide +kernel
theorem dX9_side__79 : decode cX9_side_ 79 = .ok (.sipush 360, 3) := by decide +kernel
theorem dX9_side__82 : decode cX9_side_ 82 = .ok (.iload_n 1, 1) := by decide +kernel
theorem dX9_side__83 : decode cX9_side_ 83 = .ok (.imul, 1) := by decide +kernel
theorem dX9_side__84 : decode cX9_side_ 84 = .ok (.iconst 4, 1) := by decide +kernel
theorem dX9_side__85 : decode cX9_side_ 85 = .ok (.iload_n 2, 1) := by decide +kernel
theorem dX9_side__86 : decode cX9_side_ 86 = .ok (.imul, 1) := by decide +kernel
theorem dX9_side__87 : decode cX9_side_ 87 = .ok (.iadd, 1) := by decide +kernel
theorem dX9_side__88 : decode cX9_side_ 88 = .ok (.iload_n 3, 1) := by decide +kernel
theorem dX9_side__89 : decode cX9_side_ 89 = .ok (.iadd, 1) := by decide +kernel
theorem dX9_side__90 : decode cX9_side_ 90 = .ok (.iaload, 1) := by decide +kernel
theorem dX9_side__91 : decode cX9_side_ 91 = .ok (.goto 6, 3) := by decide +kernel
theorem dX9_side__94 : decode cX9_side_ 94 = .ok (.sipush 1000, 3) := by decide +kernel
theorem dX9_side__97 : decode cX9_side_ 97 = .ok (.ireturn, 1) := by decide +kernel
set_option maxRecDepth 20000 in
theorem ggX9_on_X9_is : GoodIn wsX9_on wsX9_is := goodIn_r _ [8, 9, 10, 11, 7, 12, 18, 19, 20, 21, 22, 23, 24, 25, 26, 27, 28, 29, 30, 31, 32, 33, 34, 35, 36, 37, 38, 39, 40, 41] (by decide +kernel) (by decide +kernel)
set_option maxRecDepth 20000 in
theorem gX9_on_X9_is : GoodIn wsX9_on (wsV RX9 157 RX9 yX9_is wsX9_is) := goodIn_app (goodIn_of _ (by decide +kernel)) ggX9_on_X9_is
set_option maxRecDepth 20000 in
theorem ggX9_on_X9_in : GoodIn wsX9_on wsX9_in := goodIn_r _ [12] (by decide +kernel) (by decide +kernel)
set_option maxRecDepth 20000 in
theorem gX9_on_X9_in : GoodIn wsX9_on (va_wsS RX9 60 yX9_in wsX9_in) := goodIn_app (goodIn_of _ (by decide +kernel)) ggX9_on_X9_in
set_option maxRecDepth 20000 in
theorem ggX9_on_X9_isOn : GoodIn wsX9_on wsX9_isOn := goodIn_r _ [16, 17, 18, 19, 20, 21, 22, 23, 24, 25, 26, 27, 28, 29, 30, 31, 32, 33, 34, 35, 36, 37, 38, 39, 40, 41] (by decide +kernel) (by decide +kernel)
set_option maxRecDepth 20000 in
theorem gX9_on_X9_isOn : GoodIn wsX9_on (wsV RX9 120 RX9 yX9_isOn wsX9_isOn) := goodIn_app (goodIn_of _ (by decide +kernel)) ggX9_on_X9_isOn
theorem dX9_on_0 : decode cX9_on 0 = .ok (.aload_n 0, 1) := by decide +kernel
theorem dX9_on_1 : decode cX9_on 1 = .ok (.iload_n 1, 1) := by decide +kernel
theorem dX9_on_2 : decode cX9_on 2 = .ok (.invokevirtual 157, 3) := by decide +kernel
theorem dX9_on_5 : decode cX9_on 5 = .ok (.ifCond .eq 21, 3) := by decide +kernel
theorem dX9_on_8 : decode cX9_on 8 = .ok (.iload_n 2, 1) := by decide +kernel
theorem dX9_on_9 : decode cX9_on 9 = .ok (.i2l, 1) := by decide +kernel
theorem dX9_on_10 : decode cX9_on 10 = .ok (.lconst 0, 1) := by decide +kernel
theorem dX9_on_11 : decode cX9_on 11 = .ok (.aload_n 0, 1) := by decide +kernel
theorem dX9_on_12 : decode cX9_on 12 = .ok (.getfield 32, 3) := by decide +kernel
theorem dX9_on_15 : decode cX9_on 15 = .ok (.iload_n 1, 1) := by decide +kernel
theorem dX9_on_16 : decode cX9_on 16 = .ok (.iaload, 1) := by decide +kernel
theorem dX9_on_17 : decode cX9_on 17 = .ok (.iconst 1, 1) := by decide +kernel
theorem dX9_on_18 : decode cX9_on 18 = .ok (.isub, 1) := by decide +kernel
theorem dX9_on_19 : decode cX9_on 19 = .ok (.i2l, 1) := by decide +kernel
theorem dX9_on_20 : decode cX9_on 20 = .ok (.invokestatic 60, 3) := by decide +kernel
theorem dX9_on_23 : decode cX9_on 23 = .ok (.ifCond .ne 5, 3) := by decide +kernel
theorem dX9_on_26 : decode cX9_on 26 = .ok (.iconst (-1), 1) := by decide +kernel
theorem dX9_on_27 : decode cX9_on 27 = .ok (.ireturn, 1) := by decide +kernel
theorem dX9_on_28 : decode cX9_on 28 = .ok (.iconst 0, 1) := by decide +kernel
theorem dX9_on_29 : decode cX9_on 29 = .ok (.istore_n 3, 1) := by decide +kernel
theorem dX9_on_30 : decode cX9_on 30 = .ok (.iconst 0, 1) := by decide +kernel
theorem dX9_on_31 : decode cX9_on 31 = .ok (.istore 4, 2) := by decide +kernel
theorem dX9_on_33 : decode cX9_on 33 = .ok (.iload 4, 2) := by decide +kernel
theorem dX9_on_35 : decode cX9_on 35 = .ok (.aload_n 0, 1) := by decide +kernel
theorem dX9_on_36 : decode cX9_on 36 = .ok (.getfield 26, 3) := by decide +kernel
theorem dX9_on_39 : decode cX9_on 39 = .ok (.iload_n 1, 1) := by decide +kernel
theorem dX9_on_40 : decode cX9_on 40 = .ok (.iaload, 1) := by decide +kernel
theorem dX9_on_41 : decode cX9_on 41 = .ok (.if_icmp .ge 62, 3) := by decide +kernel
theorem dX9_on_44 : decode cX9_on 44 = .ok (.bipush 120, 2) := by decide +kernel
theorem dX9_on_46 : decode cX9_on 46 = .ok (.iload_n 1, 1) := by decide +kernel
theorem dX9_on_47 : decode cX9_on 47 = .ok (.imul, 1) := by decide +kernel
theorem dX9_on_48 : decode cX9_on 48 = .ok (.iconst 3, 1) := by decide +kernel
theorem dX9_on_49 : decode cX9_on 49 = .ok (.iload 4, 2) := by decide +kernel
theorem dX9_on_51 : decode cX9_on 51 = .ok (.imul, 1) := by decide +kernel
theorem dX9_on_52 : decode cX9_on 52 = .ok (.iadd, 1) := by decide +kernel
theorem dX9_on_53 : decode cX9_on 53 = .ok (.istore 5, 2) := by decide +kernel
theorem dX9_on_55 : decode cX9_on 55 = .ok (.iload_n 3, 1) := by decide +kernel
theorem dX9_on_56 : decode cX9_on 56 = .ok (.aload_n 0, 1) := by decide +kernel
theorem dX9_on_57 : decode cX9_on 57 = .ok (.iload_n 1, 1) := by decide +kernel
theorem dX9_on_58 : decode cX9_on 58 = .ok (.iload_n 2, 1) := by decide +kernel
theorem dX9_on_59 : decode cX9_on 59 = .ok (.aload_n 0, 1) := by decide +kernel
theorem dX9_on_60 : decode cX9_on 60 = .ok (.getfield 29, 3) := by decide +kernel
theorem dX9_on_63 : decode cX9_on 63 = .ok (.iload 5, 2) := by decide +kernel
theorem dX9_on_65 : decode cX9_on 65 = .ok (.iaload, 1) := by decide +kernel
theorem dX9_on_66 : decode cX9_on 66 = .ok (.aload_n 0, 1) := by decide +kernel
theorem dX9_on_67 : decode cX9_on 67 = .ok (.getfield 29, 3) := by decide +kernel
theorem dX9_on_70 : decode cX9_on 70 = .ok (.iload 5, 2) := by decide +kernel
theorem dX9_on_72 : decode cX9_on 72 = .ok (.iconst 1, 1) := by decide +kernel
theorem dX9_on_73 : decode cX9_on 73 = .ok (.iadd, 1) := by decide +kernel
theorem dX9_on_74 : decode cX9_on 74 = .ok (.iaload, 1) := by decide +kernel
theorem dX9_on_75 : decode cX9_on 75 = .ok (.aload_n 0, 1) := by decide +kernel
theorem dX9_on_76 : decode cX9_on 76 = .ok (.getfield 29, 3) := by decide +kernel
theorem dX9_on_79 : decode cX9_on 79 = .ok (.iload 5, 2) := by decide +kernel
theorem dX9_on_81 : decode cX9_on 81 = .ok (.iconst 2, 1) := by decide +kernel
theorem dX9_on_82 : decode cX9_on 82 = .ok (.iadd, 1) := by decide +kernel
theorem dX9_on_83 : decode cX9_on 83 = .ok (.iaload, 1) := by decide +kernel
theorem dX9_on_84 : decode cX9_on 84 = .ok (.invokevirtual 120, 3) := by decide +kernel
theorem dX9_on_87 : decode cX9_on 87 = .ok (.ifCond .eq 7, 3) := by decide +kernel
theorem dX9_on_90 : decode cX9_on 90 = .ok (.iconst 1, 1) := by decide +kernel
theorem dX9_on_91 : decode cX9_on 91 = .ok (.goto 4, 3) := by decide +kernel
theorem dX9_on_94 : decode cX9_on 94 = .ok (.iconst 0, 1) := by decide +kernel
theorem dX9_on_95 : decode cX9_on 95 = .ok (.iadd, 1) := by decide +kernel
theorem dX9_on_96 : decode cX9_on 96 = .ok (.istore_n 3, 1) := by decide +kernel
theorem dX9_on_97 : decode cX9_on 97 = .ok (.iinc 4 1, 3) := by decide +kernel
theorem dX9_on_100 : decode cX9_on 100 = .ok (.goto (-67), 3) := by decide +kernel
theorem dX9_on_103 : decode cX9_on 103 = .ok (.iload_n 3, 1) := by decide +kernel
theorem dX9_on_104 : decode cX9_on 104 = .ok (.ireturn, 1) := by decide +kernel
set_option maxRecDepth 20000 in
theorem ggX9_has_X9_is : GoodIn wsX9_has wsX9_is := goodIn_r _ [8, 9, 10, 11, 7, 12, 22, 23, 24, 25, 26, 27, 28, 29, 30, 31, 32, 33, 34, 35, 36, 37, 38, 39, 40, 41, 42, 43, 44, 45] (by decide +kernel) (by decide +kernel)
set_option maxRecDepth 20000 in
theorem gX9_has_X9_is : GoodIn wsX9_has (wsV RX9 157 RX9 yX9_is wsX9_is) := goodIn_app (goodIn_of _ (by decide +kernel)) ggX9_has_X9_is
set_option maxRecDepth 20000 in
theorem ggX9_has_X9_in : GoodIn wsX9_has wsX9_in := goodIn_r _ [12] (by decide +kernel) (by decide +kernel)
set_option maxRecDepth 20000 in
theorem gX9_has_X9_in : GoodIn wsX9_has (va_wsS RX9 60 yX9_in wsX9_in) := goodIn_app (goodIn_of _ (by decide +kernel)) ggX9_has_X9_in
set_option maxRecDepth 20000 in
theorem ggX9_has_X9_where : GoodIn wsX9_has wsX9_where := goodIn_r _ [16, 17, 18, 19, 20, 21, 22, 23, 24, 25, 26, 27, 28, 29, 30, 31, 32, 33, 34, 35, 36, 37, 38, 39, 40, 41, 42, 43, 44, 45] (by decide +kernel) (by decide +kernel)
set_option maxRecDepth 20000 in
theorem gX9_has_X9_where : GoodIn wsX9_has (wsV RX9 149 RX9 yX9_where wsX9_where) := goodIn_app (goodIn_of _ (by decide +kernel)) ggX9_has_X9_where
theorem dX9_has_0 : decode cX9_has 0 = .ok (.aload_n 0, 1) := by decide +kernel
theorem dX9_has_1 : decode cX9_has 1 = .ok (.iload_n 1, 1) := by decide +kernel
theorem dX9_has_2 : decode cX9_has 2 = .ok (.invokevirtual 157, 3) := by decide +kernel
theorem dX9_has_5 : decode cX9_has 5 = .ok (.ifCond .eq 77, 3) := by decide +kernel
theorem dX9_has_8 : decode cX9_has 8 = .ok (.iload 5, 2) := by decide +kernel
theorem dX9_has_10 : decode cX9_has 10 = .ok (.i2l, 1) := by decide +kernel
theorem dX9_has_11 : decode cX9_has 11 = .ok (.lconst 1, 1) := by decide +kernel
theorem dX9_has_12 : decode cX9_has 12 = .ok (.ldc2_w 168, 3) := by decide +kernel
theorem dX9_has_15 : decode cX9_has 15 = .ok (.invokestatic 60, 3) := by decide +kernel
theorem dX9_has_18 : decode cX9_has 18 = .ok (.ifCond .eq 64, 3) := by decide +kernel
theorem dX9_has_21 : decode cX9_has 21 = .ok (.iload_n 2, 1) := by decide +kernel
theorem dX9_has_22 : decode cX9_has 22 = .ok (.i2l, 1) := by decide +kernel
theorem dX9_has_23 : decode cX9_has 23 = .ok (.ldc2_w 170, 3) := by decide +kernel
theorem dX9_has_26 : decode cX9_has 26 = .ok (.ldc2_w 172, 3) := by decide +kernel
theorem dX9_has_29 : decode cX9_has 29 = .ok (.invokestatic 60, 3) := by decide +kernel
theorem dX9_has_32 : decode cX9_has 32 = .ok (.ifCond .eq 50, 3) := by decide +kernel
theorem dX9_has_35 : decode cX9_has 35 = .ok (.iload_n 3, 1) := by decide +kernel
theorem dX9_has_36 : decode cX9_has 36 = .ok (.i2l, 1) := by decide +kernel
theorem dX9_has_37 : decode cX9_has 37 = .ok (.ldc2_w 170, 3) := by decide +kernel
theorem dX9_has_40 : decode cX9_has 40 = .ok (.ldc2_w 172, 3) := by decide +kernel
theorem dX9_has_43 : decode cX9_has 43 = .ok (.invokestatic 60, 3) := by decide +kernel
theorem dX9_has_46 : decode cX9_has 46 = .ok (.ifCond .eq 36, 3) := by decide +kernel
theorem dX9_has_49 : decode cX9_has 49 = .ok (.iload 4, 2) := by decide +kernel
theorem dX9_has_51 : decode cX9_has 51 = .ok (.i2l, 1) := by decide +kernel
theorem dX9_has_52 : decode cX9_has 52 = .ok (.ldc2_w 170, 3) := by decide +kernel
theorem dX9_has_55 : decode cX9_has 55 = .ok (.ldc2_w 172, 3) := by decide +kernel
theorem dX9_has_58 : decode cX9_has 58 = .ok (.invokestatic 60, 3) := by decide +kernel
theorem dX9_has_61 : decode cX9_has 61 = .ok (.ifCond .eq 21, 3) := by decide +kernel
theorem dX9_has_64 : decode cX9_has 64 = .ok (.aload_n 0, 1) := by decide +kernel
theorem dX9_has_65 : decode cX9_has 65 = .ok (.iload_n 1, 1) := by decide +kernel
theorem dX9_has_66 : decode cX9_has 66 = .ok (.iload_n 2, 1) := by decide +kernel
theorem dX9_has_67 : decode cX9_has 67 = .ok (.i2l, 1) := by decide +kernel
theorem dX9_has_68 : decode cX9_has 68 = .ok (.iload_n 3, 1) := by decide +kernel
theorem dX9_has_69 : decode cX9_has 69 = .ok (.i2l, 1) := by decide +kernel
theorem dX9_has_70 : decode cX9_has 70 = .ok (.iload 4, 2) := by decide +kernel
theorem dX9_has_72 : decode cX9_has 72 = .ok (.i2l, 1) := by decide +kernel
theorem dX9_has_73 : decode cX9_has 73 = .ok (.iload 5, 2) := by decide +kernel
theorem dX9_has_75 : decode cX9_has 75 = .ok (.i2l, 1) := by decide +kernel
theorem dX9_has_76 : decode cX9_has 76 = .ok (.invokevirtual 149, 3) := by decide +kernel
theorem dX9_has_79 : decode cX9_has 79 = .ok (.goto 4, 3) := by decide +kernel
theorem dX9_has_82 : decode cX9_has 82 = .ok (.iconst (-1), 1) := by decide +kernel
theorem dX9_has_83 : decode cX9_has 83 = .ok (.ireturn, 1) := by decide +kernel
set_option maxRecDepth 20000 in
theorem ggX9_count_X9_is : GoodIn wsX9_count wsX9_is := goodIn_r _ [6, 7, 8, 9, 5, 10, 37, 38, 39, 40, 41, 42, 43, 44, 45, 46, 47, 48, 49, 50, 51, 52, 53, 54, 55, 56, 57, 58, 59, 60] (by decide +kernel) (by decide +kernel)
set_option maxRecDepth 20000 in
theorem gX9_count_X9_is : GoodIn wsX9_count (wsV RX9 157 RX9 yX9_is wsX9_is) := goodIn_app (goodIn_of _ (by decide +kernel)) ggX9_count_X9_is
set_option maxRecDepth 20000 in
theorem ggX9_count_X9_in : GoodIn wsX9_count wsX9_in := goodIn_r _ [10] (by decide +kernel) (by decide +kernel)
set_option maxRecDepth 20000 in
theorem gX9_count_X9_in : GoodIn wsX9_count (va_wsS RX9 60 yX9_in wsX9_in) := goodIn_app (goodIn_of _ (by decide +kernel)) ggX9_count_X9_in
set_option maxRecDepth 20000 in
theorem ggX9_count_X9_countOf : GoodIn wsX9_count wsX9_countOf := goodIn_p _ [14, 18, 22, 28, 32] rfl (by decide +kernel)
set_option maxRecDepth 20000 in
theorem gX9_count_X9_countOf : GoodIn wsX9_count (wsV RX9 174 RX9 yX9_countOf wsX9_countOf) := goodIn_app (goodIn_of _ (by decide +kernel)) ggX9_count_X9_countOf
theorem dX9_count_0 : decode cX9_count 0 = .ok (.aload_n 0, 1) := by decide +kernel
theorem dX9_count_1 : decode cX9_count 1 = .ok (.iload_n 1, 1) := by decide +kernel
theorem dX9_count_2 : decode cX9_count 2 = .ok (.invokevirtual 157, 3) := by decide +kernel
theorem dX9_count_5 : decode cX9_count 5 = .ok (.ifCond .eq 24, 3) := by decide +kernel
theorem dX9_count_8 : decode cX9_count 8 = .ok (.iload_n 2, 1) := by decide +kernel
theorem dX9_count_9 : decode cX9_count 9 = .ok (.i2l, 1) := by decide +kernel
theorem dX9_count_10 : decode cX9_count 10 = .ok (.lconst 0, 1) := by decide +kernel
theorem dX9_count_11 : decode cX9_count 11 = .ok (.ldc2_w 58, 3) := by decide +kernel
theorem dX9_count_14 : decode cX9_count 14 = .ok (.invokestatic 60, 3) := by decide +kernel
theorem dX9_count_17 : decode cX9_count 17 = .ok (.ifCond .eq 12, 3) := by decide +kernel
theorem dX9_count_20 : decode cX9_count 20 = .ok (.aload_n 0, 1) := by decide +kernel
theorem dX9_count_21 : decode cX9_count 21 = .ok (.iload_n 1, 1) := by decide +kernel
theorem dX9_count_22 : decode cX9_count 22 = .ok (.iload_n 2, 1) := by decide +kernel
theorem dX9_count_23 : decode cX9_count 23 = .ok (.invokevirtual 174, 3) := by decide +kernel
theorem dX9_count_26 : decode cX9_count 26 = .ok (.goto 4, 3) := by decide +kernel
theorem dX9_count_29 : decode cX9_count 29 = .ok (.iconst (-1), 1) := by decide +kernel
theorem dX9_count_30 : decode cX9_count 30 = .ok (.ireturn, 1) := by decide +kernel
set_option maxRecDepth 20000 in
theorem ggX9_inner_X9_is : GoodIn wsX9_inner wsX9_is := goodIn_r _ [6, 7, 8, 9, 5, 10, 33, 34, 35, 36, 37, 38, 39, 40, 41, 42, 43, 44, 45, 46, 47, 48, 49, 50, 51, 52, 53, 54, 55, 56] (by decide +kernel) (by decide +kernel)
set_option maxRecDepth 20000 in
theorem gX9_inner_X9_is : GoodIn wsX9_inner (wsV RX9 157 RX9 yX9_is wsX9_is) := goodIn_app (goodIn_of _ (by decide +kernel)) ggX9_inner_X9_is
set_option maxRecDepth 20000 in
theorem ggX9_inner_X9_in : GoodIn wsX9_inner wsX9_in := goodIn_r _ [10] (by decide +kernel) (by decide +kernel)
set_option maxRecDepth 20000 in
theorem gX9_inner_X9_in : GoodIn wsX9_inner (va_wsS RX9 60 yX9_in wsX9_in) := goodIn_app (goodIn_of _ (by decide +kernel)) ggX9_inner_X9_in
set_option maxRecDepth 20000 in
theorem ggX9_inner_X9_counted : GoodIn wsX9_inner wsX9_counted := goodIn_r _ [14, 15, 16, 17, 5, 18, 19, 20, 21, 22, 23, 24, 25, 26, 27, 28, 29, 30, 31, 32, 33, 34, 35, 36, 37, 38, 39, 40, 41, 42, 43, 44, 45, 46, 47, 48, 49, 50, 51, 52, 53, 54, 55, 56] (by decide +kernel) (by decide +kernel)
set_option maxRecDepth 20000 in
theorem gX9_inner_X9_counted : GoodIn wsX9_inner (wsV RX9 153 RX9 yX9_counted wsX9_counted) := goodIn_app (goodIn_of _ (by decide +kernel)) ggX9_inner_X9_counted
theorem dX9_inner_0 : decode cX9_inner 0 = .ok (.aload_n 0, 1) := by decide +kernel
theorem dX9_inner_1 : decode cX9_inner 1 = .ok (.iload_n 1, 1) := by decide +kernel
theorem dX9_inner_2 : decode cX9_inner 2 = .ok (.invokevirtual 157, 3) := by decide +kernel
theorem dX9_inner_5 : decode cX9_inner 5 = .ok (.ifCond .eq 25, 3) := by decide +kernel
theorem dX9_inner_8 : decode cX9_inner 8 = .ok (.iload_n 2, 1) := by decide +kernel
theorem dX9_inner_9 : decode cX9_inner 9 = .ok (.i2l, 1) := by decide +kernel
theorem dX9_inner_10 : decode cX9_inner 10 = .ok (.lconst 1, 1) := by decide +kernel
theorem dX9_inner_11 : decode cX9_inner 11 = .ok (.ldc2_w 58, 3) := by decide +kernel
theorem dX9_inner_14 : decode cX9_inner 14 = .ok (.invokestatic 60, 3) := by decide +kernel
theorem dX9_inner_17 : decode cX9_inner 17 = .ok (.ifCond .eq 13, 3) := by decide +kernel
theorem dX9_inner_20 : decode cX9_inner 20 = .ok (.aload_n 0, 1) := by decide +kernel
theorem dX9_inner_21 : decode cX9_inner 21 = .ok (.iload_n 1, 1) := by decide +kernel
theorem dX9_inner_22 : decode cX9_inner 22 = .ok (.iload_n 2, 1) := by decide +kernel
theorem dX9_inner_23 : decode cX9_inner 23 = .ok (.iconst 2, 1) := by decide +kernel
theorem dX9_inner_24 : decode cX9_inner 24 = .ok (.invokevirtual 153, 3) := by decide +kernel
theorem dX9_inner_27 : decode cX9_inner 27 = .ok (.goto 4, 3) := by decide +kernel
theorem dX9_inner_30 : decode cX9_inner 30 = .ok (.iconst (-1), 1) := by decide +kernel
theorem dX9_inner_31 : decode cX9_inner 31 = .ok (.ireturn, 1) := by decide +kernel
set_option maxRecDepth 20000 in
theorem ggX9_layRule_X9_countOf : GoodIn wsX9_layRule wsX9_countOf := goodIn_p _ [7, 11, 15, 21, 25] rfl (by decide +kernel)
set_option maxRecDepth 20000 in
theorem gX9_layRule_X9_countOf : GoodIn wsX9_layRule (wsV RX9 174 RX9 yX9_countOf wsX9_countOf) := goodIn_app (goodIn_of _ (by decide +kernel)) ggX9_layRule_X9_countOf
theorem dX9_layRule_0 : decode cX9_layRule 0 = .ok (.aload_n 0, 1) := by decide +kernel
theorem dX9_layRule_1 : decode cX9_layRule 1 = .ok (.iload_n 1, 1) := by decide +kernel
theorem dX9_layRule_2 : decode cX9_layRule 2 = .ok (.iconst 1, 1) := by decide +kernel
theorem dX9_layRule_3 : decode cX9_layRule 3 = .ok (.invokevirtual 174, 3) := by decide +kernel
theorem dX9_layRule_6 : decode cX9_layRule 6 = .ok (.istore_n 2, 1) := by decide +kernel
theorem dX9_layRule_7 : decode cX9_layRule 7 = .ok (.aload_n 0, 1) := by decide +kernel
theorem dX9_layRule_8 : decode cX9_layRule 8 = .ok (.getfield 23, 3) := by decide +kernel
theorem dX9_layRule_11 : decode cX9_layRule 11 = .ok (.iload_n 1, 1) := by decide +kernel
theorem dX9_layRule_12 : decode cX9_layRule 12 = .ok (.iaload, 1) := by decide +kernel
theorem dX9_layRule_13 : decode cX9_layRule 13 = .ok (.iconst 1, 1) := by decide +kernel
theorem dX9_layRule_14 : decode cX9_layRule 14 = .ok (.if_icmp .le 12, 3) := by decide +kernel
theorem dX9_layRule_17 : decode cX9_layRule 17 = .ok (.aload_n 0, 1) := by decide +kernel
theorem dX9_layRule_18 : decode cX9_layRule 18 = .ok (.iload_n 1, 1) := by decide +kernel
theorem dX9_layRule_19 : decode cX9_layRule 19 = .ok (.iconst 2, 1) := by decide +kernel
theorem dX9_layRule_20 : decode cX9_layRule 20 = .ok (.invokevirtual 174, 3) := by decide +kernel
theorem dX9_layRule_23 : decode cX9_layRule 23 = .ok (.goto 4, 3) := by decide +kernel
theorem dX9_layRule_26 : decode cX9_layRule 26 = .ok (.iconst 0, 1) := by decide +kernel
theorem dX9_layRule_27 : decode cX9_layRule 27 = .ok (.istore_n 3, 1) := by decide +kernel
theorem dX9_layRule_28 : decode cX9_layRule 28 = .ok (.aload_n 0, 1) := by decide +kernel
theorem dX9_layRule_29 : decode cX9_layRule 29 = .ok (.getfield 23, 3) := by decide +kernel
theorem dX9_layRule_32 : decode cX9_layRule 32 = .ok (.iload_n 1, 1) := by decide +kernel
theorem dX9_layRule_33 : decode cX9_layRule 33 = .ok (.iaload, 1) := by decide +kernel
theorem dX9_layRule_34 : decode cX9_layRule 34 = .ok (.iconst 2, 1) := by decide +kernel
theorem dX9_layRule_35 : decode cX9_layRule 35 = .ok (.if_icmp .le 12, 3) := by decide +kernel
theorem dX9_layRule_38 : decode cX9_layRule 38 = .ok (.aload_n 0, 1) := by decide +kernel
theorem dX9_layRule_39 : decode cX9_layRule 39 = .ok (.iload_n 1, 1) := by decide +kernel
theorem dX9_layRule_40 : decode cX9_layRule 40 = .ok (.iconst 3, 1) := by decide +kernel
theorem dX9_layRule_41 : decode cX9_layRule 41 = .ok (.invokevirtual 174, 3) := by decide +kernel
theorem dX9_layRule_44 : decode cX9_layRule 44 = .ok (.goto 4, 3) := by decide +kernel
theorem dX9_layRule_47 : decode cX9_layRule 47 = .ok (.iconst 0, 1) := by decide +kernel
theorem dX9_layRule_48 : decode cX9_layRule 48 = .ok (.istore 4, 2) := by decide +kernel
theorem dX9_layRule_50 : decode cX9_layRule 50 = .ok (.aload_n 0, 1) := by decide +kernel
theorem dX9_layRule_51 : decode cX9_layRule 51 = .ok (.getfield 53, 3) := by decide +kernel
theorem dX9_layRule_54 : decode cX9_layRule 54 = .ok (.iconst 0, 1) := by decide +kernel
theorem dX9_layRule_55 : decode cX9_layRule 55 = .ok (.bipush 6, 2) := by decide +kernel
theorem dX9_layRule_57 : decode cX9_layRule 57 = .ok (.iastore, 1) := by decide +kernel
theorem dX9_layRule_58 : decode cX9_layRule 58 = .ok (.aload_n 0, 1) := by decide +kernel
theorem dX9_layRule_59 : decode cX9_layRule 59 = .ok (.getfield 53, 3) := by decide +kernel
theorem dX9_layRule_62 : decode cX9_layRule 62 = .ok (.iconst 3, 1) := by decide +kernel
theorem dX9_layRule_63 : decode cX9_layRule 63 = .ok (.aload_n 0, 1) := by decide +kernel
theorem dX9_layRule_64 : decode cX9_layRule 64 = .ok (.getfield 23, 3) := by decide +kernel
theorem dX9_layRule_67 : decode cX9_layRule 67 = .ok (.iload_n 1, 1) := by decide +kernel
theorem dX9_layRule_68 : decode cX9_layRule 68 = .ok (.iaload, 1) := by decide +kernel
theorem dX9_layRule_69 : decode cX9_layRule 69 = .ok (.iconst 2, 1) := by decide +kernel
theorem dX9_layRule_70 : decode cX9_layRule 70 = .ok (.if_icmp .le 18, 3) := by decide +kernel
theorem dX9_layRule_73 : decode cX9_layRule 73 = .ok (.iload 4, 2) := by decide +kernel
theorem dX9_layRule_75 : decode cX9_layRule 75 = .ok (.iconst 3, 1) := by decide +kernel
theorem dX9_layRule_76 : decode cX9_layRule 76 = .ok (.iload_n 3, 1) := by decide +kernel
theorem dX9_layRule_77 : decode cX9_layRule 77 = .ok (.imul, 1) := by decide +kernel
theorem dX9_layRule_78 : decode cX9_layRule 78 = .ok (.isub, 1) := by decide +kernel
theorem dX9_layRule_79 : decode cX9_layRule 79 = .ok (.iconst 3, 1) := by decide +kernel
theorem dX9_layRule_80 : decode cX9_layRule 80 = .ok (.iload_n 2, 1) := by decide +kernel
theorem dX9_layRule_81 : decode cX9_layRule 81 = .ok (.imul, 1) := by decide +kernel
theorem dX9_layRule_82 : decode cX9_layRule 82 = .ok (.iadd, 1) := by decide +kernel
theorem dX9_layRule_83 : decode cX9_layRule 83 = .ok (.iconst 1, 1) := by decide +kernel
theorem dX9_layRule_84 : decode cX9_layRule 84 = .ok (.isub, 1) := by decide +kernel
theorem dX9_layRule_85 : decode cX9_layRule 85 = .ok (.goto 4, 3) := by decide +kernel
theorem dX9_layRule_88 : decode cX9_layRule 88 = .ok (.iconst 0, 1) := by decide +kernel
theorem dX9_layRule_89 : decode cX9_layRule 89 = .ok (.iastore, 1) := by decide +kernel
theorem dX9_layRule_90 : decode cX9_layRule 90 = .ok (.aload_n 0, 1) := by decide +kernel
theorem dX9_layRule_91 : decode cX9_layRule 91 = .ok (.getfield 53, 3) := by decide +kernel
theorem dX9_layRule_94 : decode cX9_layRule 94 = .ok (.iconst 2, 1) := by decide +kernel
theorem dX9_layRule_95 : decode cX9_layRule 95 = .ok (.aload_n 0, 1) := by decide +kernel
theorem dX9_layRule_96 : decode cX9_layRule 96 = .ok (.getfield 23, 3) := by decide +kernel
theorem dX9_layRule_99 : decode cX9_layRule 99 = .ok (.iload_n 1, 1) := by decide +kernel
theorem dX9_layRule_100 : decode cX9_layRule 100 = .ok (.iaload, 1) := by decide +kernel
theorem dX9_layRule_101 : decode cX9_layRule 101 = .ok (.iconst 1, 1) := by decide +kernel
theorem dX9_layRule_102 : decode cX9_layRule 102 = .ok (.if_icmp .le 22, 3) := by decide +kernel
theorem dX9_layRule_105 : decode cX9_layRule 105 = .ok (.iconst 3, 1) := by decide +kernel
theorem dX9_layRule_106 : decode cX9_layRule 106 = .ok (.iload_n 3, 1) := by decide +kernel
theorem dX9_layRule_107 : decode cX9_layRule 107 = .ok (.iconst 2, 1) := by decide +kernel
theorem dX9_layRule_108 : decode cX9_layRule 108 = .ok (.iload_n 2, 1) := by decide +kernel
theorem dX9_layRule_109 : decode cX9_layRule 109 = .ok (.imul, 1) := by decide +kernel
theorem dX9_layRule_110 : decode cX9_layRule 110 = .ok (.isub, 1) := by decide +kernel
theorem dX9_layRule_111 : decode cX9_layRule 111 = .ok (.iconst 1, 1) := by decide +kernel
theorem dX9_layRule_112 : decode cX9_layRule 112 = .ok (.iadd, 1) := by decide +kernel
theorem dX9_layRule_113 : decode cX9_layRule 113 = .ok (.aload_n 0, 1) := by decide +kernel
theorem dX9_layRule_114 : decode cX9_layRule 114 = .ok (.getfield 53, 3) := by decide +kernel
theorem dX9_layRule_117 : decode cX9_layRule 117 = .ok (.iconst 3, 1) := by decide +kernel
theorem dX9_layRule_118 : decode cX9_layRule 118 = .ok (.iaload, 1) := by decide +kernel
theorem dX9_layRule_119 : decode cX9_layRule 119 = .ok (.isub, 1) := by decide +kernel
theorem dX9_layRule_120 : decode cX9_layRule 120 = .ok (.imul, 1) := by decide +kernel
theorem dX9_layRule_121 : decode cX9_layRule 121 = .ok (.goto 4, 3) := by decide +kernel
theorem dX9_layRule_124 : decode cX9_layRule 124 = .ok (.iconst 0, 1) := by decide +kernel
theorem dX9_layRule_125 : decode cX9_layRule 125 = .ok (.iastore, 1) := by decide +kernel
theorem dX9_layRule_126 : decode cX9_layRule 126 = .ok (.aload_n 0, 1) := by decide +kernel
theorem dX9_layRule_127 : decode cX9_layRule 127 = .ok (.getfield 53, 3) := by decide +kernel
theorem dX9_layRule_130 : decode cX9_layRule 130 = .ok (.iconst 1, 1) := by decide +kernel
theorem dX9_layRule_131 : decode cX9_layRule 131 = .ok (.aload_n 0, 1) := by decide +kernel
theorem dX9_layRule_132 : decode cX9_layRule 132 = .ok (.getfield 23, 3) := by decide +kernel
theorem dX9_layRule_135 : decode cX9_layRule 135 = .ok (.iload_n 1, 1) := by decide +kernel
theorem dX9_layRule_136 : decode cX9_layRule 136 = .ok (.iaload, 1) := by decide +kernel
theorem dX9_layRule_137 : decode cX9_layRule 137 = .ok (.ifCond .le 26, 3) := by decide +kernel
theorem dX9_layRule_140 : decode cX9_layRule 140 = .ok (.bipush 6, 2) := by decide +kernel
theorem dX9_layRule_142 : decode cX9_layRule 142 = .ok (.iload_n 2, 1) := by decide +kernel
theorem dX9_layRule_143 : decode cX9_layRule 143 = .ok (.iconst 1, 1) := by decide +kernel
theorem dX9_layRule_144 : decode cX9_layRule 144 = .ok (.isub, 1) := by decide +kernel
theorem dX9_layRule_145 : decode cX9_layRule 145 = .ok (.imul, 1) := by decide +kernel
theorem dX9_layRule_146 : decode cX9_layRule 146 = .ok (.aload_n 0, 1) := by decide +kernel
theorem dX9_layRule_147 : decode cX9_layRule 147 = .ok (.getfield 53, 3) := by decide +kernel
theorem dX9_layRule_150 : decode cX9_layRule 150 = .ok (.iconst 2, 1) := by decide +kernel
theorem dX9_layRule_151 : decode cX9_layRule 151 = .ok (.iaload, 1) := by decide +kernel
theorem dX9_layRule_152 : decode cX9_layRule 152 = .ok (.isub, 1) := by decide +kernel
theorem dX9_layRule_153 : decode cX9_layRule 153 = .ok (.aload_n 0, 1) := by decide +kernel
theorem dX9_layRule_154 : decode cX9_layRule 154 = .ok (.getfield 53, 3) := by decide +kernel
theorem dX9_layRule_157 : decode cX9_layRule 157 = .ok (.iconst 3, 1) := by decide +kernel
theorem dX9_layRule_158 : decode cX9_layRule 158 = .ok (.iaload, 1) := by decide +kernel
theorem dX9_layRule_159 : decode cX9_layRule 159 = .ok (.isub, 1) := by decide +kernel
theorem dX9_layRule_160 : decode cX9_layRule 160 = .ok (.goto 4, 3) := by decide +kernel
theorem dX9_layRule_163 : decode cX9_layRule 163 = .ok (.iconst 0, 1) := by decide +kernel
theorem dX9_layRule_164 : decode cX9_layRule 164 = .ok (.iastore, 1) := by decide +kernel
theorem dX9_layRule_165 : decode cX9_layRule 165 = .ok (.return_, 1) := by decide +kernel
set_option maxRecDepth 20000 in
theorem ggX9_number_X9_is : GoodIn wsX9_number wsX9_is := goodIn_r _ [8, 9, 10, 11, 7, 12, 43, 44, 45, 46, 47, 48, 49, 50, 51, 52, 53, 54, 55, 56, 57, 58, 59, 60, 61, 62, 63, 64, 65, 66] (by decide +kernel) (by decide +kernel)
set_option maxRecDepth 20000 in
theorem gX9_number_X9_is : GoodIn wsX9_number (wsV RX9 157 RX9 yX9_is wsX9_is) := goodIn_app (goodIn_of _ (by decide +kernel)) ggX9_number_X9_is
