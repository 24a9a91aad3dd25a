theorem dX8_draw_61 : decode cX8_draw 61 = .ok (.aload_n 0, 1) := by decide +kernel
theorem dX8_draw_62 : decode cX8_draw 62 = .ok (.aload 4, 2) := by decide +kernel
theorem dX8_draw_64 : decode cX8_draw 64 = .ok (.iload 5, 2) := by decide +kernel
theorem dX8_draw_66 : decode cX8_draw 66 = .ok (.invokevirtual 68, 3) := by decide +kernel
theorem dX8_draw_69 : decode cX8_draw 69 = .ok (.istore 6, 2) := by decide +kernel
theorem dX8_draw_71 : decode cX8_draw 71 = .ok (.iload 6, 2) := by decide +kernel
theorem dX8_draw_73 : decode cX8_draw 73 = .ok (.ifCond .eq 6, 3) := by decide +kernel
theorem dX8_draw_76 : decode cX8_draw 76 = .ok (.iload 6, 2) := by decide +kernel
theorem dX8_draw_78 : decode cX8_draw 78 = .ok (.ireturn, 1) := by decide +kernel
theorem dX8_draw_79 : decode cX8_draw 79 = .ok (.iinc 5 1, 3) := by decide +kernel
theorem dX8_draw_82 : decode cX8_draw 82 = .ok (.goto (-27), 3) := by decide +kernel
theorem dX8_draw_85 : decode cX8_draw 85 = .ok (.iconst 0, 1) := by decide +kernel
theorem dX8_draw_86 : decode cX8_draw 86 = .ok (.istore 5, 2) := by decide +kernel
theorem dX8_draw_88 : decode cX8_draw 88 = .ok (.iload 5, 2) := by decide +kernel
theorem dX8_draw_90 : decode cX8_draw 90 = .ok (.iload_n 3, 1) := by decide +kernel
theorem dX8_draw_91 : decode cX8_draw 91 = .ok (.if_icmp .ge 50, 3) := by decide +kernel
theorem dX8_draw_94 : decode cX8_draw 94 = .ok (.aload_n 0, 1) := by decide +kernel
theorem dX8_draw_95 : decode cX8_draw 95 = .ok (.getfield 14, 3) := by decide +kernel
theorem dX8_draw_98 : decode cX8_draw 98 = .ok (.aload 4, 2) := by decide +kernel
theorem dX8_draw_100 : decode cX8_draw 100 = .ok (.iconst 3, 1) := by decide +kernel
theorem dX8_draw_101 : decode cX8_draw 101 = .ok (.iload 5, 2) := by decide +kernel
theorem dX8_draw_103 : decode cX8_draw 103 = .ok (.imul, 1) := by decide +kernel
theorem dX8_draw_104 : decode cX8_draw 104 = .ok (.invokevirtual 72, 3) := by decide +kernel
theorem dX8_draw_107 : decode cX8_draw 107 = .ok (.l2i, 1) := by decide +kernel
theorem dX8_draw_108 : decode cX8_draw 108 = .ok (.aload 4, 2) := by decide +kernel
theorem dX8_draw_110 : decode cX8_draw 110 = .ok (.iconst 3, 1) := by decide +kernel
theorem dX8_draw_111 : decode cX8_draw 111 = .ok (.iload 5, 2) := by decide +kernel
theorem dX8_draw_113 : decode cX8_draw 113 = .ok (.imul, 1) := by decide +kernel
theorem dX8_draw_114 : decode cX8_draw 114 = .ok (.iconst 1, 1) := by decide +kernel
theorem dX8_draw_115 : decode cX8_draw 115 = .ok (.iadd, 1) := by decide +kernel
theorem dX8_draw_116 : decode cX8_draw 116 = .ok (.invokevirtual 72, 3) := by decide +kernel
theorem dX8_draw_119 : decode cX8_draw 119 = .ok (.l2i, 1) := by decide +kernel
theorem dX8_draw_120 : decode cX8_draw 120 = .ok (.aload 4, 2) := by decide +kernel
theorem dX8_draw_122 : decode cX8_draw 122 = .ok (.iconst 3, 1) := by decide +kernel
theorem dX8_draw_123 : decode cX8_draw 123 = .ok (.iload 5, 2) := by decide +kernel
theorem dX8_draw_125 : decode cX8_draw 125 = .ok (.imul, 1) := by decide +kernel
theorem dX8_draw_126 : decode cX8_draw 126 = .ok (.iconst 2, 1) := by decide +kernel
theorem dX8_draw_127 : decode cX8_draw 127 = .ok (.iadd, 1) := by decide +kernel
theorem dX8_draw_128 : decode cX8_draw 128 = .ok (.invokevirtual 72, 3) := by decide +kernel
theorem dX8_draw_131 : decode cX8_draw 131 = .ok (.l2i, 1) := by decide +kernel
theorem dX8_draw_132 : decode cX8_draw 132 = .ok (.invokevirtual 46, 3) := by decide +kernel
theorem dX8_draw_135 : decode cX8_draw 135 = .ok (.iinc 5 1, 3) := by decide +kernel
theorem dX8_draw_138 : decode cX8_draw 138 = .ok (.goto (-50), 3) := by decide +kernel
theorem dX8_draw_141 : decode cX8_draw 141 = .ok (.aload_n 0, 1) := by decide +kernel
theorem dX8_draw_142 : decode cX8_draw 142 = .ok (.getfield 14, 3) := by decide +kernel
theorem dX8_draw_145 : decode cX8_draw 145 = .ok (.getfield 42, 3) := by decide +kernel
theorem dX8_draw_148 : decode cX8_draw 148 = .ok (.ireturn, 1) := by decide +kernel
set_option maxRecDepth 20000 in
theorem ggX8_refusalOf_X5_cell : GoodIn wsX8_refusalOf wsX5_cell := goodIn_r _ [8, 9, 10, 18, 19, 20] (by decide +kernel) (by decide +kernel)
set_option maxRecDepth 20000 in
theorem gX8_refusalOf_X5_cell : GoodIn wsX8_refusalOf (wsV RX8 72 RX5 yX5_cell wsX5_cell) := goodIn_app (goodIn_of _ (by decide +kernel)) ggX8_refusalOf_X5_cell
set_option maxRecDepth 20000 in
theorem ggX8_refusalOf_X8_inReach : GoodIn wsX8_refusalOf wsX8_inReach := goodIn_r _ [14, 15, 16, 13, 17] (by decide +kernel) (by decide +kernel)
set_option maxRecDepth 20000 in
theorem gX8_refusalOf_X8_inReach : GoodIn wsX8_refusalOf (va_wsS RX8 38 yX8_inReach wsX8_inReach) := goodIn_app (goodIn_of _ (by decide +kernel)) ggX8_refusalOf_X8_inReach
theorem dX8_refusalOf_0 : decode cX8_refusalOf 0 = .ok (.iload_n 2, 1) := by decide +kernel
theorem dX8_refusalOf_1 : decode cX8_refusalOf 1 = .ok (.aload_n 1, 1) := by decide +kernel
theorem dX8_refusalOf_2 : decode cX8_refusalOf 2 = .ok (.getfield 64, 3) := by decide +kernel
theorem dX8_refusalOf_5 : decode cX8_refusalOf 5 = .ok (.iconst 3, 1) := by decide +kernel
theorem dX8_refusalOf_6 : decode cX8_refusalOf 6 = .ok (.idiv, 1) := by decide +kernel
theorem dX8_refusalOf_7 : decode cX8_refusalOf 7 = .ok (.if_icmp .lt 6, 3) := by decide +kernel
theorem dX8_refusalOf_10 : decode cX8_refusalOf 10 = .ok (.bipush (-12), 2) := by decide +kernel
theorem dX8_refusalOf_12 : decode cX8_refusalOf 12 = .ok (.ireturn, 1) := by decide +kernel
theorem dX8_refusalOf_13 : decode cX8_refusalOf 13 = .ok (.aload_n 1, 1) := by decide +kernel
theorem dX8_refusalOf_14 : decode cX8_refusalOf 14 = .ok (.iconst 3, 1) := by decide +kernel
theorem dX8_refusalOf_15 : decode cX8_refusalOf 15 = .ok (.iload_n 2, 1) := by decide +kernel
theorem dX8_refusalOf_16 : decode cX8_refusalOf 16 = .ok (.imul, 1) := by decide +kernel
theorem dX8_refusalOf_17 : decode cX8_refusalOf 17 = .ok (.invokevirtual 72, 3) := by decide +kernel
theorem dX8_refusalOf_20 : decode cX8_refusalOf 20 = .ok (.aload_n 1, 1) := by decide +kernel
theorem dX8_refusalOf_21 : decode cX8_refusalOf 21 = .ok (.iconst 3, 1) := by decide +kernel
theorem dX8_refusalOf_22 : decode cX8_refusalOf 22 = .ok (.iload_n 2, 1) := by decide +kernel
theorem dX8_refusalOf_23 : decode cX8_refusalOf 23 = .ok (.imul, 1) := by decide +kernel
theorem dX8_refusalOf_24 : decode cX8_refusalOf 24 = .ok (.iconst 1, 1) := by decide +kernel
theorem dX8_refusalOf_25 : decode cX8_refusalOf 25 = .ok (.iadd, 1) := by decide +kernel
theorem dX8_refusalOf_26 : decode cX8_refusalOf 26 = .ok (.invokevirtual 72, 3) := by decide +kernel
theorem dX8_refusalOf_29 : decode cX8_refusalOf 29 = .ok (.aload_n 1, 1) := by decide +kernel
theorem dX8_refusalOf_30 : decode cX8_refusalOf 30 = .ok (.iconst 3, 1) := by decide +kernel
theorem dX8_refusalOf_31 : decode cX8_refusalOf 31 = .ok (.iload_n 2, 1) := by decide +kernel
theorem dX8_refusalOf_32 : decode cX8_refusalOf 32 = .ok (.imul, 1) := by decide +kernel
theorem dX8_refusalOf_33 : decode cX8_refusalOf 33 = .ok (.iconst 2, 1) := by decide +kernel
theorem dX8_refusalOf_34 : decode cX8_refusalOf 34 = .ok (.iadd, 1) := by decide +kernel
theorem dX8_refusalOf_35 : decode cX8_refusalOf 35 = .ok (.invokevirtual 72, 3) := by decide +kernel
theorem dX8_refusalOf_38 : decode cX8_refusalOf 38 = .ok (.invokestatic 38, 3) := by decide +kernel
theorem dX8_refusalOf_41 : decode cX8_refusalOf 41 = .ok (.ifCond .ne 5, 3) := by decide +kernel
theorem dX8_refusalOf_44 : decode cX8_refusalOf 44 = .ok (.iconst (-1), 1) := by decide +kernel
theorem dX8_refusalOf_45 : decode cX8_refusalOf 45 = .ok (.ireturn, 1) := by decide +kernel
theorem dX8_refusalOf_46 : decode cX8_refusalOf 46 = .ok (.aload_n 0, 1) := by decide +kernel
theorem dX8_refusalOf_47 : decode cX8_refusalOf 47 = .ok (.getfield 14, 3) := by decide +kernel
theorem dX8_refusalOf_50 : decode cX8_refusalOf 50 = .ok (.getfield 42, 3) := by decide +kernel
theorem dX8_refusalOf_53 : decode cX8_refusalOf 53 = .ok (.iload_n 2, 1) := by decide +kernel
theorem dX8_refusalOf_54 : decode cX8_refusalOf 54 = .ok (.iadd, 1) := by decide +kernel
theorem dX8_refusalOf_55 : decode cX8_refusalOf 55 = .ok (.bipush 12, 2) := by decide +kernel
theorem dX8_refusalOf_57 : decode cX8_refusalOf 57 = .ok (.if_icmp .lt 8, 3) := by decide +kernel
theorem dX8_refusalOf_60 : decode cX8_refusalOf 60 = .ok (.bipush (-3), 2) := by decide +kernel
theorem dX8_refusalOf_62 : decode cX8_refusalOf 62 = .ok (.goto 4, 3) := by decide +kernel
theorem dX8_refusalOf_65 : decode cX8_refusalOf 65 = .ok (.iconst 0, 1) := by decide +kernel
theorem dX8_refusalOf_66 : decode cX8_refusalOf 66 = .ok (.ireturn, 1) := by decide +kernel
theorem dX8_clear_0 : decode cX8_clear 0 = .ok (.aload_n 0, 1) := by decide +kernel
theorem dX8_clear_1 : decode cX8_clear 1 = .ok (.getfield 14, 3) := by decide +kernel
theorem dX8_clear_4 : decode cX8_clear 4 = .ok (.getfield 42, 3) := by decide +kernel
theorem dX8_clear_7 : decode cX8_clear 7 = .ok (.istore_n 1, 1) := by decide +kernel
theorem dX8_clear_8 : decode cX8_clear 8 = .ok (.aload_n 0, 1) := by decide +kernel
theorem dX8_clear_9 : decode cX8_clear 9 = .ok (.getfield 14, 3) := by decide +kernel
theorem dX8_clear_12 : decode cX8_clear 12 = .ok (.iconst 0, 1) := by decide +kernel
theorem dX8_clear_13 : decode cX8_clear 13 = .ok (.putfield 42, 3) := by decide +kernel
theorem dX8_clear_16 : decode cX8_clear 16 = .ok (.iload_n 1, 1) := by decide +kernel
theorem dX8_clear_17 : decode cX8_clear 17 = .ok (.ireturn, 1) := by decide +kernel
set_option maxRecDepth 20000 in
theorem ggX8_body_X3_begin : GoodIn wsX8_body wsX3_begin := goodIn_r _ [9, 10, 11, 250, 251, 252, 253, 254, 255, 256, 257, 246, 247, 248, 249] (by decide +kernel) (by decide +kernel)
set_option maxRecDepth 20000 in
theorem gX8_body_X3_begin : GoodIn wsX8_body (wsV RX8 79 RX3 yX3_begin wsX3_begin) := goodIn_app (goodIn_of _ (by decide +kernel)) ggX8_body_X3_begin
set_option maxRecDepth 20000 in
theorem ggX8_body_X3_takeAll : GoodIn wsX8_body wsX3_takeAll := goodIn_r _ [15, 11, 10, 16, 17, 18, 19, 20, 21, 22, 23, 24, 25, 26, 27, 246, 247, 248, 249, 250, 251, 252, 253, 254, 255, 256, 257] (by decide +kernel) (by decide +kernel)
set_option maxRecDepth 20000 in
theorem gX8_body_X3_takeAll : GoodIn wsX8_body (wsV RX8 82 RX3 yX3_takeAll wsX3_takeAll) := goodIn_app (goodIn_of _ (by decide +kernel)) ggX8_body_X3_takeAll
set_option maxRecDepth 20000 in
theorem ggX8_body_X8_keepMade : GoodIn wsX8_body wsX8_keepMade := goodIn_r _ [32, 3, 33, 4, 34, 35, 36, 8, 37, 10, 11, 38, 39, 40, 41, 42, 43, 44, 45, 46, 47, 22, 48, 24, 49, 50, 51, 52, 25, 26, 27, 53, 54, 55, 56, 57, 58, 59, 60, 61, 62, 63, 64, 65, 66, 67, 68, 69, 70, 71, 72, 73, 74, 75, 76, 77, 78, 79, 80, 81, 82, 83, 84, 85, 86, 87, 88, 89, 90, 91, 92, 93, 94, 95, 96, 97, 98, 99, 100, 101, 102, 103, 104, 105, 106, 107, 108, 109, 16, 17, 18, 110, 111, 112, 113, 114, 115, 116, 117, 118, 119, 120, 121, 122, 123, 124, 125, 126, 127, 128, 129, 130, 131, 132, 133, 134, 135, 136, 137, 138, 139, 140, 141, 142, 143, 144, 145, 146, 147, 148, 149, 150, 151, 152, 153, 154, 155, 156, 157, 158, 159, 160, 161, 162, 163, 164, 165, 166, 167, 168, 169, 170, 171, 172, 173, 174, 175, 176, 177, 178, 179, 180, 181, 182, 183, 184, 185, 186, 187, 188, 189, 190, 191, 192, 193, 194, 195, 196, 197, 198, 199, 200, 201, 202, 203, 204, 205, 206, 207, 208, 209, 210, 211, 212, 213, 214, 215, 216, 217, 218, 219, 220, 221, 222, 223, 224, 225, 226, 227, 228, 229, 230, 231, 232, 233, 234, 235, 236, 237, 238, 239, 240, 241, 242, 243, 244, 245, 250, 251, 252, 253, 254, 255, 256, 257, 246, 247, 248, 249, 258, 259, 260, 261, 262, 263, 264, 265, 266, 267, 268, 269, 270, 271, 272, 273, 274] (by decide +kernel) (by decide +kernel)
set_option maxRecDepth 20000 in
theorem gX8_body_X8_keepMade : GoodIn wsX8_body (wsV RX8 86 RX8 yX8_keepMade wsX8_keepMade) := goodIn_app (goodIn_of _ (by decide +kernel)) ggX8_body_X8_keepMade
theorem dX8_body_0 : decode cX8_body 0 = .ok (.aload_n 0, 1) := by decide +kernel
theorem dX8_body_1 : decode cX8_body 1 = .ok (.getfield 14, 3) := by decide +kernel
theorem dX8_body_4 : decode cX8_body 4 = .ok (.getfield 42, 3) := by decide +kernel
theorem dX8_body_7 : decode cX8_body 7 = .ok (.ifCond .ne 6, 3) := by decide +kernel
theorem dX8_body_10 : decode cX8_body 10 = .ok (.bipush (-2), 2) := by decide +kernel
theorem dX8_body_12 : decode cX8_body 12 = .ok (.ireturn, 1) := by decide +kernel
theorem dX8_body_13 : decode cX8_body 13 = .ok (.aload_n 0, 1) := by decide +kernel
theorem dX8_body_14 : decode cX8_body 14 = .ok (.getfield 76, 3) := by decide +kernel
theorem dX8_body_17 : decode cX8_body 17 = .ok (.bipush 8, 2) := by decide +kernel
theorem dX8_body_19 : decode cX8_body 19 = .ok (.if_icmp .lt 6, 3) := by decide +kernel
theorem dX8_body_22 : decode cX8_body 22 = .ok (.bipush (-3), 2) := by decide +kernel
theorem dX8_body_24 : decode cX8_body 24 = .ok (.ireturn, 1) := by decide +kernel
theorem dX8_body_25 : decode cX8_body 25 = .ok (.aload_n 0, 1) := by decide +kernel
theorem dX8_body_26 : decode cX8_body 26 = .ok (.getfield 33, 3) := by decide +kernel
theorem dX8_body_29 : decode cX8_body 29 = .ok (.invokevirtual 79, 3) := by decide +kernel
theorem dX8_body_32 : decode cX8_body 32 = .ok (.aload_n 0, 1) := by decide +kernel
theorem dX8_body_33 : decode cX8_body 33 = .ok (.getfield 33, 3) := by decide +kernel
theorem dX8_body_36 : decode cX8_body 36 = .ok (.aload_n 0, 1) := by decide +kernel
theorem dX8_body_37 : decode cX8_body 37 = .ok (.getfield 14, 3) := by decide +kernel
theorem dX8_body_40 : decode cX8_body 40 = .ok (.invokevirtual 82, 3) := by decide +kernel
theorem dX8_body_43 : decode cX8_body 43 = .ok (.aload_n 0, 1) := by decide +kernel
theorem dX8_body_44 : decode cX8_body 44 = .ok (.getfield 14, 3) := by decide +kernel
theorem dX8_body_47 : decode cX8_body 47 = .ok (.iconst 0, 1) := by decide +kernel
theorem dX8_body_48 : decode cX8_body 48 = .ok (.putfield 42, 3) := by decide +kernel
theorem dX8_body_51 : decode cX8_body 51 = .ok (.aload_n 0, 1) := by decide +kernel
theorem dX8_body_52 : decode cX8_body 52 = .ok (.invokevirtual 86, 3) := by decide +kernel
theorem dX8_body_55 : decode cX8_body 55 = .ok (.ireturn, 1) := by decide +kernel
theorem dX8_drop_0 : decode cX8_drop 0 = .ok (.aload_n 0, 1) := by decide +kernel
theorem dX8_drop_1 : decode cX8_drop 1 = .ok (.getfield 76, 3) := by decide +kernel
theorem dX8_drop_4 : decode cX8_drop 4 = .ok (.ifCond .ne 6, 3) := by decide +kernel
theorem dX8_drop_7 : decode cX8_drop 7 = .ok (.bipush (-4), 2) := by decide +kernel
theorem dX8_drop_9 : decode cX8_drop 9 = .ok (.ireturn, 1) := by decide +kernel
theorem dX8_drop_10 : decode cX8_drop 10 = .ok (.aload_n 0, 1) := by decide +kernel
theorem dX8_drop_11 : decode cX8_drop 11 = .ok (.dup, 1) := by decide +kernel
theorem dX8_drop_12 : decode cX8_drop 12 = .ok (.getfield 76, 3) := by decide +kernel
theorem dX8_drop_15 : decode cX8_drop 15 = .ok (.iconst 1, 1) := by decide +kernel
theorem dX8_drop_16 : decode cX8_drop 16 = .ok (.isub, 1) := by decide +kernel
theorem dX8_drop_17 : decode cX8_drop 17 = .ok (.putfield 76, 3) := by decide +kernel
theorem dX8_drop_20 : decode cX8_drop 20 = .ok (.aload_n 0, 1) := by decide +kernel
theorem dX8_drop_21 : decode cX8_drop 21 = .ok (.getfield 26, 3) := by decide +kernel
theorem dX8_drop_24 : decode cX8_drop 24 = .ok (.aload_n 0, 1) := by decide +kernel
theorem dX8_drop_25 : decode cX8_drop 25 = .ok (.getfield 76, 3) := by decide +kernel
theorem dX8_drop_28 : decode cX8_drop 28 = .ok (.aconst_null, 1) := by decide +kernel
theorem dX8_drop_29 : decode cX8_drop 29 = .ok (.aastore, 1) := by decide +kernel
theorem dX8_drop_30 : decode cX8_drop 30 = .ok (.aload_n 0, 1) := by decide +kernel
theorem dX8_drop_31 : decode cX8_drop 31 = .ok (.getfield 76, 3) := by decide +kernel
theorem dX8_drop_34 : decode cX8_drop 34 = .ok (.ireturn, 1) := by decide +kernel
set_option maxRecDepth 20000 in
theorem ggX8_about_X8_find : GoodIn wsX8_about wsX8_find := goodIn_r _ [11, 12, 13, 59, 60, 61, 62, 63] (by decide +kernel) (by decide +kernel)
set_option maxRecDepth 20000 in
theorem gX8_about_X8_find : GoodIn wsX8_about (wsV RX8 90 RX8 yX8_find wsX8_find) := goodIn_app (goodIn_of _ (by decide +kernel)) ggX8_about_X8_find
set_option maxRecDepth 20000 in
theorem ggX8_about_X0_kind : GoodIn wsX8_about wsX0_kind := goodIn_r _ [18, 19, 20, 21, 22, 23, 24, 17, 25, 26, 27, 28, 29, 30, 31, 32, 33, 34, 35, 36, 37, 38, 39, 40, 41, 42, 43, 44, 45, 46, 47, 48, 49, 50, 51, 52, 53] (by decide +kernel) (by decide +kernel)
set_option maxRecDepth 20000 in
theorem gX8_about_X0_kind : GoodIn wsX8_about (wsV RX8 94 RX0 yX0_kind wsX0_kind) := goodIn_app (goodIn_of _ (by decide +kernel)) ggX8_about_X0_kind
theorem dX8_about_0 : decode cX8_about 0 = .ok (.aload_n 0, 1) := by decide +kernel
theorem dX8_about_1 : decode cX8_about 1 = .ok (.iload_n 1, 1) := by decide +kernel
theorem dX8_about_2 : decode cX8_about 2 = .ok (.invokevirtual 90, 3) := by decide +kernel
theorem dX8_about_5 : decode cX8_about 5 = .ok (.astore_n 3, 1) := by decide +kernel
theorem dX8_about_6 : decode cX8_about 6 = .ok (.aload_n 3, 1) := by decide +kernel
theorem dX8_about_7 : decode cX8_about 7 = .ok (.ifnonnull 5, 3) := by decide +kernel
theorem dX8_about_10 : decode cX8_about 10 = .ok (.iconst (-1), 1) := by decide +kernel
theorem dX8_about_11 : decode cX8_about 11 = .ok (.ireturn, 1) := by decide +kernel
theorem dX8_about_12 : decode cX8_about 12 = .ok (.iload_n 2, 1) := by decide +kernel
theorem dX8_about_13 : decode cX8_about 13 = .ok (.tableswitch 66 0 4 #[35, 40, 45, 53, 61], 35) := by decide +kernel
theorem dX8_about_48 : decode cX8_about 48 = .ok (.aload_n 3, 1) := by decide +kernel
theorem dX8_about_49 : decode cX8_about 49 = .ok (.invokevirtual 94, 3) := by decide +kernel
theorem dX8_about_52 : decode cX8_about 52 = .ok (.ireturn, 1) := by decide +kernel
theorem dX8_about_53 : decode cX8_about 53 = .ok (.aload_n 3, 1) := by decide +kernel
theorem dX8_about_54 : decode cX8_about 54 = .ok (.getfield 97, 3) := by decide +kernel
theorem dX8_about_57 : decode cX8_about 57 = .ok (.ireturn, 1) := by decide +kernel
theorem dX8_about_58 : decode cX8_about 58 = .ok (.aload_n 3, 1) := by decide +kernel
theorem dX8_about_59 : decode cX8_about 59 = .ok (.getfield 100, 3) := by decide +kernel
theorem dX8_about_62 : decode cX8_about 62 = .ok (.getfield 42, 3) := by decide +kernel
theorem dX8_about_65 : decode cX8_about 65 = .ok (.ireturn, 1) := by decide +kernel
theorem dX8_about_66 : decode cX8_about 66 = .ok (.aload_n 3, 1) := by decide +kernel
theorem dX8_about_67 : decode cX8_about 67 = .ok (.getfield 103, 3) := by decide +kernel
theorem dX8_about_70 : decode cX8_about 70 = .ok (.getfield 107, 3) := by decide +kernel
theorem dX8_about_73 : decode cX8_about 73 = .ok (.ireturn, 1) := by decide +kernel
theorem dX8_about_74 : decode cX8_about 74 = .ok (.aload_n 3, 1) := by decide +kernel
theorem dX8_about_75 : decode cX8_about 75 = .ok (.getfield 110, 3) := by decide +kernel
theorem dX8_about_78 : decode cX8_about 78 = .ok (.ireturn, 1) := by decide +kernel
theorem dX8_about_79 : decode cX8_about 79 = .ok (.iconst (-1), 1) := by decide +kernel
theorem dX8_about_80 : decode cX8_about 80 = .ok (.ireturn, 1) := by decide +kernel
set_option maxRecDepth 20000 in
theorem ggX8_cornerOf_X8_find : GoodIn wsX8_cornerOf wsX8_find := goodIn_r _ [7, 8, 9, 35, 36, 37, 38, 39] (by decide +kernel) (by decide +kernel)
set_option maxRecDepth 20000 in
theorem gX8_cornerOf_X8_find : GoodIn wsX8_cornerOf (wsV RX8 90 RX8 yX8_find wsX8_find) := goodIn_app (goodIn_of _ (by decide +kernel)) ggX8_cornerOf_X8_find
set_option maxRecDepth 20000 in
theorem ggX8_cornerOf_X8_isWay : GoodIn wsX8_cornerOf wsX8_isWay := goodIn_r _ [12] (by decide +kernel) (by decide +kernel)
set_option maxRecDepth 20000 in
theorem gX8_cornerOf_X8_isWay : GoodIn wsX8_cornerOf (va_wsS RX8 113 yX8_isWay wsX8_isWay) := goodIn_app (goodIn_of _ (by decide +kernel)) ggX8_cornerOf_X8_isWay
set_option maxRecDepth 20000 in
theorem ggX8_cornerOf_X4_part : GoodIn wsX8_cornerOf wsX4_part := goodIn_r _ [17, 18, 19, 20, 21, 31, 32, 33, 34] (by decide +kernel) (by decide +kernel)
set_option maxRecDepth 20000 in
theorem gX8_cornerOf_X4_part : GoodIn wsX8_cornerOf (wsV RX8 116 RX4 yX4_part wsX4_part) := goodIn_app (goodIn_of _ (by decide +kernel)) ggX8_cornerOf_X4_part
theorem dX8_cornerOf_0 : decode cX8_cornerOf 0 = .ok (.aload_n 0, 1) := by decide +kernel
theorem dX8_cornerOf_1 : decode cX8_cornerOf 1 = .ok (.iload_n 1, 1) := by decide +kernel
theorem dX8_cornerOf_2 : decode cX8_cornerOf 2 = .ok (.invokevirtual 90, 3) := by decide +kernel
theorem dX8_cornerOf_5 : decode cX8_cornerOf 5 = .ok (.astore 4, 2) := by decide +kernel
theorem dX8_cornerOf_7 : decode cX8_cornerOf 7 = .ok (.aload 4, 2) := by decide +kernel
theorem dX8_cornerOf_9 : decode cX8_cornerOf 9 = .ok (.ifnull 26, 3) := by decide +kernel
theorem dX8_cornerOf_12 : decode cX8_cornerOf 12 = .ok (.iload_n 2, 1) := by decide +kernel
theorem dX8_cornerOf_13 : decode cX8_cornerOf 13 = .ok (.ifCond .lt 22, 3) := by decide +kernel
theorem dX8_cornerOf_16 : decode cX8_cornerOf 16 = .ok (.iload_n 2, 1) := by decide +kernel
theorem dX8_cornerOf_17 : decode cX8_cornerOf 17 = .ok (.aload 4, 2) := by decide +kernel
theorem dX8_cornerOf_19 : decode cX8_cornerOf 19 = .ok (.getfield 100, 3) := by decide +kernel
theorem dX8_cornerOf_22 : decode cX8_cornerOf 22 = .ok (.getfield 42, 3) := by decide +kernel
theorem dX8_cornerOf_25 : decode cX8_cornerOf 25 = .ok (.if_icmp .ge 10, 3) := by decide +kernel
theorem dX8_cornerOf_28 : decode cX8_cornerOf 28 = .ok (.iload_n 3, 1) := by decide +kernel
theorem dX8_cornerOf_29 : decode cX8_cornerOf 29 = .ok (.invokestatic 113, 3) := by decide +kernel
theorem dX8_cornerOf_32 : decode cX8_cornerOf 32 = .ok (.ifCond .ne 7, 3) := by decide +kernel
theorem dX8_cornerOf_35 : decode cX8_cornerOf 35 = .ok (.sipush 1000, 3) := by decide +kernel
theorem dX8_cornerOf_38 : decode cX8_cornerOf 38 = .ok (.ireturn, 1) := by decide +kernel
theorem dX8_cornerOf_39 : decode cX8_cornerOf 39 = .ok (.aload 4, 2) := by decide +kernel
theorem dX8_cornerOf_41 : decode cX8_cornerOf 41 = .ok (.getfield 100, 3) := by decide +kernel
theorem dX8_cornerOf_44 : decode cX8_cornerOf 44 = .ok (.iload_n 2, 1) := by decide +kernel
theorem dX8_cornerOf_45 : decode cX8_cornerOf 45 = .ok (.iload_n 3, 1) := by decide +kernel
theorem dX8_cornerOf_46 : decode cX8_cornerOf 46 = .ok (.invokevirtual 116, 3) := by decide +kernel
theorem dX8_cornerOf_49 : decode cX8_cornerOf 49 = .ok (.ireturn, 1) := by decide +kernel
set_option maxRecDepth 20000 in
theorem ggX8_side_X8_find : GoodIn wsX8_side wsX8_find := goodIn_r _ [9, 10, 11, 36, 37, 38, 39, 40] (by decide +kernel) (by decide +kernel)
set_option maxRecDepth 20000 in
theorem gX8_side_X8_find : GoodIn wsX8_side (wsV RX8 90 RX8 yX8_find wsX8_find) := goodIn_app (goodIn_of _ (by decide +kernel)) ggX8_side_X8_find
set_option maxRecDepth 20000 in
theorem ggX8_side_X1_part : GoodIn wsX8_side wsX1_part := goodIn_r _ [16, 17, 18, 19, 20, 21, 31, 32, 33, 34, 35] (by decide +kernel) (by decide +kernel)
set_option maxRecDepth 20000 in
theorem gX8_side_X1_part : GoodIn wsX8_side (wsV RX8 123 RX1 yX1_part wsX1_part) := goodIn_app (goodIn_of _ (by decide +kernel)) ggX8_side_X1_part
theorem dX8_side_0 : decode cX8_side 0 = .ok (.aload_n 0, 1) := by decide +kernel
theorem dX8_side_1 : decode cX8_side 1 = .ok (.iload_n 1, 1) := by decide +kernel
theorem dX8_side_2 : decode cX8_side 2 = .ok (.invokevirtual 90, 3) := by decide +kernel
theorem dX8_side_5 : decode cX8_side 5 = .ok (.astore 4, 2) := by decide +kernel
theorem dX8_side_7 : decode cX8_side 7 = .ok (.aload 4, 2) := by decide +kernel
theorem dX8_side_9 : decode cX8_side 9 = .ok (.ifnull 12, 3) := by decide +kernel
theorem dX8_side_12 : decode cX8_side 12 = .ok (.iload_n 3, 1) := by decide +kernel
theorem dX8_side_13 : decode cX8_side 13 = .ok (.ifCond .lt 8, 3) := by decide +kernel
theorem dX8_side_16 : decode cX8_side 16 = .ok (.iload_n 3, 1) := by decide +kernel
theorem dX8_side_17 : decode cX8_side 17 = .ok (.iconst 3, 1) := by decide +kernel
theorem dX8_side_18 : decode cX8_side 18 = .ok (.if_icmp .le 7, 3) := by decide +kernel
theorem dX8_side_21 : decode cX8_side 21 = .ok (.sipush 1000, 3) := by decide +kernel
theorem dX8_side_24 : decode cX8_side 24 = .ok (.ireturn, 1) := by decide +kernel
theorem dX8_side_25 : decode cX8_side 25 = .ok (.iload_n 2, 1) := by decide +kernel
theorem dX8_side_26 : decode cX8_side 26 = .ok (.bipush (-4), 2) := by decide +kernel
theorem dX8_side_28 : decode cX8_side 28 = .ok (.if_icmp .ne 29, 3) := by decide +kernel
theorem dX8_side_31 : decode cX8_side 31 = .ok (.aload 4, 2) := by decide +kernel
theorem dX8_side_33 : decode cX8_side 33 = .ok (.getfield 97, 3) := by decide +kernel
theorem dX8_side_36 : decode cX8_side 36 = .ok (.iconst 2, 1) := by decide +kernel
theorem dX8_side_37 : decode cX8_side 37 = .ok (.if_icmp .ne 16, 3) := by decide +kernel
theorem dX8_side_40 : decode cX8_side 40 = .ok (.aload 4, 2) := by decide +kernel
theorem dX8_side_42 : decode cX8_side 42 = .ok (.getfield 120, 3) := by decide +kernel
theorem dX8_side_45 : decode cX8_side 45 = .ok (.iconst 0, 1) := by decide +kernel
theorem dX8_side_46 : decode cX8_side 46 = .ok (.iload_n 3, 1) := by decide +kernel
theorem dX8_side_47 : decode cX8_side 47 = .ok (.invokevirtual 123, 3) := by decide +kernel
theorem dX8_side_50 : decode cX8_side 50 = .ok (.goto 6, 3) := by decide +kernel
theorem dX8_side_53 : decode cX8_side 53 = .ok (.sipush 1000, 3) := by decide +kernel
theorem dX8_side_56 : decode cX8_side 56 = .ok (.ireturn, 1) := by decide +kernel
theorem dX8_side_57 : decode cX8_side 57 = .ok (.iload_n 2, 1) := by decide +kernel
theorem dX8_side_58 : decode cX8_side 58 = .ok (.ifCond .lt 28, 3) := by decide +kernel
theorem dX8_side_61 : decode cX8_side 61 = .ok (.iload_n 2, 1) := by decide +kernel
theorem dX8_side_62 : decode cX8_side 62 = .ok (.aload 4, 2) := by decide +kernel
theorem dX8_side_64 : decode cX8_side 64 = .ok (.getfield 103, 3) := by decide +kernel
theorem dX8_side_67 : decode cX8_side 67 = .ok (.getfield 107, 3) := by decide +kernel
theorem dX8_side_70 : decode cX8_side 70 = .ok (.if_icmp .ge 16, 3) := by decide +kernel
theorem dX8_side_73 : decode cX8_side 73 = .ok (.aload 4, 2) := by decide +kernel
theorem dX8_side_75 : decode cX8_side 75 = .ok (.getfield 103, 3) := by decide +kernel
theorem dX8_side_78 : decode cX8_side 78 = .ok (.iload_n 2, 1) := by decide +kernel
theorem dX8_side_79 : decode cX8_side 79 = .ok (.iload_n 3, 1) := by decide +kernel
theorem dX8_side_80 : decode cX8_side 80 = .ok (.invokevirtual 123, 3) := by decide +kernel
theorem dX8_side_83 : decode cX8_side 83 = .ok (.goto 6, 3) := by decide +kernel
theorem dX8_side_86 : decode cX8_side 86 = .ok (.sipush 1000, 3) := by decide +kernel
theorem dX8_side_89 : decode cX8_side 89 = .ok (.ireturn, 1) := by decide +kernel
set_option maxRecDepth 20000 in
theorem ggX8_on_X8_find : GoodIn wsX8_on wsX8_find := goodIn_r _ [7, 8, 9, 44, 45, 46, 47, 48] (by decide +kernel) (by decide +kernel)
set_option maxRecDepth 20000 in
theorem gX8_on_X8_find : GoodIn wsX8_on (wsV RX8 90 RX8 yX8_find wsX8_find) := goodIn_app (goodIn_of _ (by decide +kernel)) ggX8_on_X8_find
set_option maxRecDepth 20000 in
theorem ggX8_on_X0_cornersOn : GoodIn wsX8_on wsX0_cornersOn := goodIn_r _ [14, 15, 16, 17, 18, 19, 20, 21, 22, 23, 24, 25, 26, 27, 28, 29, 30, 31, 32, 33, 34, 35, 36, 37, 38, 49, 50, 51, 52, 39, 40, 41, 42, 43] (by decide +kernel) (by decide +kernel)
set_option maxRecDepth 20000 in
theorem gX8_on_X0_cornersOn : GoodIn wsX8_on (wsV RX8 124 RX0 yX0_cornersOn wsX0_cornersOn) := goodIn_app (goodIn_of _ (by decide +kernel)) ggX8_on_X0_cornersOn
theorem dX8_on_0 : decode cX8_on 0 = .ok (.aload_n 0, 1) := by decide +kernel
theorem dX8_on_1 : decode cX8_on 1 = .ok (.iload_n 1, 1) := by decide +kernel
theorem dX8_on_2 : decode cX8_on 2 = .ok (.invokevirtual 90, 3) := by decide +kernel
theorem dX8_on_5 : decode cX8_on 5 = .ok (.astore_n 3, 1) := by decide +kernel
theorem dX8_on_6 : decode cX8_on 6 = .ok (.aload_n 3, 1) := by decide +kernel
theorem dX8_on_7 : decode cX8_on 7 = .ok (.ifnull 18, 3) := by decide +kernel
theorem dX8_on_10 : decode cX8_on 10 = .ok (.iload_n 2, 1) := by decide +kernel
theorem dX8_on_11 : decode cX8_on 11 = .ok (.ifCond .lt 14, 3) := by decide +kernel
theorem dX8_on_14 : decode cX8_on 14 = .ok (.iload_n 2, 1) := by decide +kernel
theorem dX8_on_15 : decode cX8_on 15 = .ok (.aload_n 3, 1) := by decide +kernel
theorem dX8_on_16 : decode cX8_on 16 = .ok (.getfield 103, 3) := by decide +kernel
theorem dX8_on_19 : decode cX8_on 19 = .ok (.getfield 107, 3) := by decide +kernel
theorem dX8_on_22 : decode cX8_on 22 = .ok (.if_icmp .lt 5, 3) := by decide +kernel
theorem dX8_on_25 : decode cX8_on 25 = .ok (.iconst (-1), 1) := by decide +kernel
theorem dX8_on_26 : decode cX8_on 26 = .ok (.ireturn, 1) := by decide +kernel
theorem dX8_on_27 : decode cX8_on 27 = .ok (.aload_n 3, 1) := by decide +kernel
theorem dX8_on_28 : decode cX8_on 28 = .ok (.iload_n 2, 1) := by decide +kernel
theorem dX8_on_29 : decode cX8_on 29 = .ok (.invokevirtual 124, 3) := by decide +kernel
theorem dX8_on_32 : decode cX8_on 32 = .ok (.ireturn, 1) := by decide +kernel
set_option maxRecDepth 20000 in
theorem ggX8_has_X8_find : GoodIn wsX8_has wsX8_find := goodIn_r _ [6, 7, 8, 29, 30, 31, 32, 33] (by decide +kernel) (by decide +kernel)
set_option maxRecDepth 20000 in
theorem gX8_has_X8_find : GoodIn wsX8_has (wsV RX8 90 RX8 yX8_find wsX8_find) := goodIn_app (goodIn_of _ (by decide +kernel)) ggX8_has_X8_find
set_option maxRecDepth 20000 in
theorem ggX8_has_X8_isAmong : GoodIn wsX8_has wsX8_isAmong := goodIn_r _ [11] (by decide +kernel) (by decide +kernel)
set_option maxRecDepth 20000 in
theorem gX8_has_X8_isAmong : GoodIn wsX8_has (va_wsS RX8 129 yX8_isAmong wsX8_isAmong) := goodIn_app (goodIn_of _ (by decide +kernel)) ggX8_has_X8_isAmong
set_option maxRecDepth 20000 in
theorem ggX8_has_X0_placeOf : GoodIn wsX8_has wsX0_placeOf := goodIn_r _ [16, 17, 18, 19, 20, 21, 22, 23, 24, 25, 26, 27, 28, 34, 35, 36, 37, 38, 39, 40, 41, 42, 43, 44, 45, 46, 47] (by decide +kernel) (by decide +kernel)
set_option maxRecDepth 20000 in
theorem gX8_has_X0_placeOf : GoodIn wsX8_has (wsV RX8 133 RX0 yX0_placeOf wsX0_placeOf) := goodIn_app (goodIn_of _ (by decide +kernel)) ggX8_has_X0_placeOf
theorem dX8_has_0 : decode cX8_has 0 = .ok (.aload_n 0, 1) := by decide +kernel
theorem dX8_has_1 : decode cX8_has 1 = .ok (.iload_n 1, 1) := by decide +kernel
theorem dX8_has_2 : decode cX8_has 2 = .ok (.invokevirtual 90, 3) := by decide +kernel
theorem dX8_has_5 : decode cX8_has 5 = .ok (.astore 6, 2) := by decide +kernel
theorem dX8_has_7 : decode cX8_has 7 = .ok (.aload 6, 2) := by decide +kernel
theorem dX8_has_9 : decode cX8_has 9 = .ok (.ifnull 17, 3) := by decide +kernel
theorem dX8_has_12 : decode cX8_has 12 = .ok (.iload 5, 2) := by decide +kernel
theorem dX8_has_14 : decode cX8_has 14 = .ok (.iconst 1, 1) := by decide +kernel
theorem dX8_has_15 : decode cX8_has 15 = .ok (.if_icmp .lt 11, 3) := by decide +kernel
theorem dX8_has_18 : decode cX8_has 18 = .ok (.iload 5, 2) := by decide +kernel
theorem dX8_has_20 : decode cX8_has 20 = .ok (.sipush 1000, 3) := by decide +kernel
theorem dX8_has_23 : decode cX8_has 23 = .ok (.if_icmp .le 5, 3) := by decide +kernel
theorem dX8_has_26 : decode cX8_has 26 = .ok (.iconst (-1), 1) := by decide +kernel
theorem dX8_has_27 : decode cX8_has 27 = .ok (.ireturn, 1) := by decide +kernel
theorem dX8_has_28 : decode cX8_has 28 = .ok (.iload_n 2, 1) := by decide +kernel
theorem dX8_has_29 : decode cX8_has 29 = .ok (.i2l, 1) := by decide +kernel
theorem dX8_has_30 : decode cX8_has 30 = .ok (.ldc 128, 2) := by decide +kernel
theorem dX8_has_32 : decode cX8_has 32 = .ok (.invokestatic 129, 3) := by decide +kernel
theorem dX8_has_35 : decode cX8_has 35 = .ok (.ifCond .eq 24, 3) := by decide +kernel
theorem dX8_has_38 : decode cX8_has 38 = .ok (.iload_n 3, 1) := by decide +kernel
theorem dX8_has_39 : decode cX8_has 39 = .ok (.i2l, 1) := by decide +kernel
theorem dX8_has_40 : decode cX8_has 40 = .ok (.ldc 128, 2) := by decide +kernel
theorem dX8_has_42 : decode cX8_has 42 = .ok (.invokestatic 129, 3) := by decide +kernel
theorem dX8_has_45 : decode cX8_has 45 = .ok (.ifCond .eq 14, 3) := by decide +kernel
theorem dX8_has_48 : decode cX8_has 48 = .ok (.iload 4, 2) := by decide +kernel
theorem dX8_has_50 : decode cX8_has 50 = .ok (.i2l, 1) := by decide +kernel
theorem dX8_has_51 : decode cX8_has 51 = .ok (.ldc 128, 2) := by decide +kernel
theorem dX8_has_53 : decode cX8_has 53 = .ok (.invokestatic 129, 3) := by decide +kernel
theorem dX8_has_56 : decode cX8_has 56 = .ok (.ifCond .ne 5, 3) := by decide +kernel
theorem dX8_has_59 : decode cX8_has 59 = .ok (.iconst (-1), 1) := by decide +kernel
theorem dX8_has_60 : decode cX8_has 60 = .ok (.ireturn, 1) := by decide +kernel
theorem dX8_has_61 : decode cX8_has 61 = .ok (.aload 6, 2) := by decide +kernel
theorem dX8_has_63 : decode cX8_has 63 = .ok (.iload_n 2, 1) := by decide +kernel
theorem dX8_has_64 : decode cX8_has 64 = .ok (.iload_n 3, 1) := by decide +kernel
theorem dX8_has_65 : decode cX8_has 65 = .ok (.iload 4, 2) := by decide +kernel
theorem dX8_has_67 : decode cX8_has 67 = .ok (.iload 5, 2) := by decide +kernel
theorem dX8_has_69 : decode cX8_has 69 = .ok (.invokevirtual 133, 3) := by decide +kernel
theorem dX8_has_72 : decode cX8_has 72 = .ok (.ireturn, 1) := by decide +kernel
set_option maxRecDepth 20000 in
theorem ggX8_count_X8_find : GoodIn wsX8_count wsX8_find := goodIn_r _ [5, 6, 7, 99, 100, 101, 102, 103] (by decide +kernel) (by decide +kernel)
set_option maxRecDepth 20000 in
theorem gX8_count_X8_find : GoodIn wsX8_count (wsV RX8 90 RX8 yX8_find wsX8_find) := goodIn_app (goodIn_of _ (by decide +kernel)) ggX8_count_X8_find
set_option maxRecDepth 20000 in
theorem ggX8_count_X0_growth : GoodIn wsX8_count wsX0_growth := goodIn_r _ [12, 13, 14, 15, 16, 17, 18, 19, 20, 21, 11, 22, 23, 24, 25, 26, 27, 28, 29, 30, 31, 32, 33, 34, 35, 36, 37, 38, 39, 40, 41, 42, 43, 44, 45, 46, 47, 48, 49, 50, 51, 52, 53, 54, 55, 56, 57, 58, 59, 60, 61, 62, 63, 64, 65, 66, 67, 68, 69, 70, 71, 72, 73, 74, 75, 76, 77, 78, 79, 80, 81, 82, 83, 84, 85, 86, 87, 88, 89, 90, 91, 92, 93, 104, 105, 106, 107, 108, 109, 110, 111, 112, 113, 114, 115, 116, 117, 118, 119, 120, 121, 122, 123, 124, 125, 126, 127, 128, 129, 130, 131] (by decide +kernel) (by decide +kernel)
set_option maxRecDepth 20000 in
theorem gX8_count_X0_growth : GoodIn wsX8_count (wsV RX8 137 RX0 yX0_growth wsX0_growth) := goodIn_app (goodIn_of _ (by decide +kernel)) ggX8_count_X0_growth
set_option maxRecDepth 20000 in
theorem ggX8_count_X2_at : GoodIn wsX8_count wsX2_at := goodIn_r _ [97, 91, 98, 113, 114] (by decide +kernel) (by decide +kernel)
set_option maxRecDepth 20000 in
theorem gX8_count_X2_at : GoodIn wsX8_count (wsV RX8 141 RX2 yX2_at wsX2_at) := goodIn_app (goodIn_of _ (by decide +kernel)) ggX8_count_X2_at
theorem dX8_count_0 : decode cX8_count 0 = .ok (.aload_n 0, 1) := by decide +kernel
theorem dX8_count_1 : decode cX8_count 1 = .ok (.iload_n 1, 1) := by decide +kernel
theorem dX8_count_2 : decode cX8_count 2 = .ok (.invokevirtual 90, 3) := by decide +kernel
theorem dX8_count_5 : decode cX8_count 5 = .ok (.astore_n 3, 1) := by decide +kernel
theorem dX8_count_6 : decode cX8_count 6 = .ok (.aload_n 3, 1) := by decide +kernel
theorem dX8_count_7 : decode cX8_count 7 = .ok (.ifnull 12, 3) := by decide +kernel
theorem dX8_count_10 : decode cX8_count 10 = .ok (.iload_n 2, 1) := by decide +kernel
theorem dX8_count_11 : decode cX8_count 11 = .ok (.ifCond .lt 8, 3) := by decide +kernel
theorem dX8_count_14 : decode cX8_count 14 = .ok (.iload_n 2, 1) := by decide +kernel
theorem dX8_count_15 : decode cX8_count 15 = .ok (.iconst 5, 1) := by decide +kernel
theorem dX8_count_16 : decode cX8_count 16 = .ok (.if_icmp .le 5, 3) := by decide +kernel
theorem dX8_count_19 : decode cX8_count 19 = .ok (.iconst (-1), 1) := by decide +kernel
theorem dX8_count_20 : decode cX8_count 20 = .ok (.ireturn, 1) := by decide +kernel
theorem dX8_count_21 : decode cX8_count 21 = .ok (.aload_n 3, 1) := by decide +kernel
theorem dX8_count_22 : decode cX8_count 22 = .ok (.invokevirtual 137, 3) := by decide +kernel
theorem dX8_count_25 : decode cX8_count 25 = .ok (.iload_n 2, 1) := by decide +kernel
theorem dX8_count_26 : decode cX8_count 26 = .ok (.i2l, 1) := by decide +kernel
theorem dX8_count_27 : decode cX8_count 27 = .ok (.invokevirtual 141, 3) := by decide +kernel
theorem dX8_count_30 : decode cX8_count 30 = .ok (.l2i, 1) := by decide +kernel
theorem dX8_count_31 : decode cX8_count 31 = .ok (.ireturn, 1) := by decide +kernel
set_option maxRecDepth 20000 in
theorem ggX8_inner_X8_find : GoodIn wsX8_inner wsX8_find := goodIn_r _ [6, 7, 8, 112, 113, 114, 115, 116] (by decide +kernel) (by decide +kernel)
set_option maxRecDepth 20000 in
theorem gX8_inner_X8_find : GoodIn wsX8_inner (wsV RX8 90 RX8 yX8_find wsX8_find) := goodIn_app (goodIn_of _ (by decide +kernel)) ggX8_inner_X8_find
set_option maxRecDepth 20000 in
theorem ggX8_inner_X8_isSwelling : GoodIn wsX8_inner wsX8_isSwelling := goodIn_r _ [11] (by decide +kernel) (by decide +kernel)
set_option maxRecDepth 20000 in
theorem gX8_inner_X8_isSwelling : GoodIn wsX8_inner (va_wsS RX8 147 yX8_isSwelling wsX8_isSwelling) := goodIn_app (goodIn_of _ (by decide +kernel)) ggX8_inner_X8_isSwelling
set_option maxRecDepth 20000 in
theorem ggX8_inner_X0_growth : GoodIn wsX8_inner wsX0_growth := goodIn_r _ [16, 17, 18, 19, 20, 21, 22, 23, 24, 25, 15, 26, 27, 28, 29, 30, 31, 32, 33, 34, 35, 36, 37, 38, 39, 40, 41, 42, 43, 44, 45, 46, 47, 48, 49, 50, 51, 52, 53, 54, 55, 56, 57, 58, 59, 60, 61, 62, 63, 64, 65, 66, 67, 68, 69, 70, 71, 72, 73, 74, 75, 76, 77, 78, 79, 80, 81, 82, 83, 84, 85, 86, 87, 88, 89, 90, 91, 92, 93, 94, 95, 96, 97, 103, 104, 105, 106, 107, 108, 109, 110, 111, 117, 118, 119, 120, 121, 122, 123, 124, 125, 126, 127, 128, 129, 130, 131, 132, 133, 134, 135] (by decide +kernel) (by decide +kernel)
set_option maxRecDepth 20000 in
theorem gX8_inner_X0_growth : GoodIn wsX8_inner (wsV RX8 137 RX0 yX0_growth wsX0_growth) := goodIn_app (goodIn_of _ (by decide +kernel)) ggX8_inner_X0_growth
set_option maxRecDepth 20000 in
theorem ggX8_inner_X2_at : GoodIn wsX8_inner wsX2_at := goodIn_r _ [101, 95, 102, 117, 118] (by decide +kernel) (by decide +kernel)
set_option maxRecDepth 20000 in
theorem gX8_inner_X2_at : GoodIn wsX8_inner (wsV RX8 141 RX2 yX2_at wsX2_at) := goodIn_app (goodIn_of _ (by decide +kernel)) ggX8_inner_X2_at
theorem dX8_inner_0 : decode cX8_inner 0 = .ok (.aload_n 0, 1) := by decide +kernel
theorem dX8_inner_1 : decode cX8_inner 1 = .ok (.iload_n 1, 1) := by decide +kernel
theorem dX8_inner_2 : decode cX8_inner 2 = .ok (.invokevirtual 90, 3) := by decide +kernel
theorem dX8_inner_5 : decode cX8_inner 5 = .ok (.astore_n 3, 1) := by decide +kernel
theorem dX8_inner_6 : decode cX8_inner 6 = .ok (.aload_n 3, 1) := by decide +kernel
theorem dX8_inner_7 : decode cX8_inner 7 = .ok (.ifnull 10, 3) := by decide +kernel
theorem dX8_inner_10 : decode cX8_inner 10 = .ok (.iload_n 2, 1) := by decide +kernel
theorem dX8_inner_11 : decode cX8_inner 11 = .ok (.invokestatic 147, 3) := by decide +kernel
theorem dX8_inner_14 : decode cX8_inner 14 = .ok (.ifCond .ne 5, 3) := by decide +kernel
theorem dX8_inner_17 : decode cX8_inner 17 = .ok (.iconst (-1), 1) := by decide +kernel
theorem dX8_inner_18 : decode cX8_inner 18 = .ok (.ireturn, 1) := by decide +kernel
theorem dX8_inner_19 : decode cX8_inner 19 = .ok (.aload_n 3, 1) := by decide +kernel
theorem dX8_inner_20 : decode cX8_inner 20 = .ok (.invokevirtual 137, 3) := by decide +kernel
theorem dX8_inner_23 : decode cX8_inner 23 = .ok (.iload_n 2, 1) := by decide +kernel
theorem dX8_inner_24 : decode cX8_inner 24 = .ok (.ineg, 1) := by decide +kernel
theorem dX8_inner_25 : decode cX8_inner 25 = .ok (.i2l, 1) := by decide +kernel
theorem dX8_inner_26 : decode cX8_inner 26 = .ok (.invokevirtual 141, 3) := by decide +kernel
theorem dX8_inner_29 : decode cX8_inner 29 = .ok (.l2i, 1) := by decide +kernel
theorem dX8_inner_30 : decode cX8_inner 30 = .ok (.istore 4, 2) := by decide +kernel
theorem dX8_inner_32 : decode cX8_inner 32 = .ok (.aload_n 3, 1) := by decide +kernel
theorem dX8_inner_33 : decode cX8_inner 33 = .ok (.getfield 97, 3) := by decide +kernel
theorem dX8_inner_36 : decode cX8_inner 36 = .ok (.iconst 2, 1) := by decide +kernel
theorem dX8_inner_37 : decode cX8_inner 37 = .ok (.irem, 1) := by decide +kernel
theorem dX8_inner_38 : decode cX8_inner 38 = .ok (.ifCond .ne 8, 3) := by decide +kernel
theorem dX8_inner_41 : decode cX8_inner 41 = .ok (.iload 4, 2) := by decide +kernel
theorem dX8_inner_43 : decode cX8_inner 43 = .ok (.goto 6, 3) := by decide +kernel
theorem dX8_inner_46 : decode cX8_inner 46 = .ok (.iload 4, 2) := by decide +kernel
theorem dX8_inner_48 : decode cX8_inner 48 = .ok (.ineg, 1) := by decide +kernel
theorem dX8_inner_49 : decode cX8_inner 49 = .ok (.ireturn, 1) := by decide +kernel
set_option maxRecDepth 20000 in
theorem ggX8_number_X8_find : GoodIn wsX8_number wsX8_find := goodIn_r _ [7, 8, 9, 98, 99, 100, 101, 102] (by decide +kernel) (by decide +kernel)
set_option maxRecDepth 20000 in
theorem gX8_number_X8_find : GoodIn wsX8_number (wsV RX8 90 RX8 yX8_find wsX8_find) := goodIn_app (goodIn_of _ (by decide +kernel)) ggX8_number_X8_find
set_option maxRecDepth 20000 in
theorem ggX8_number_X0_growth : GoodIn wsX8_number wsX0_growth := goodIn_r _ [14, 15, 16, 17, 18, 19, 20, 21, 22, 23, 13, 24, 25, 26, 27, 28, 29, 30, 31, 32, 33, 34, 35, 36, 37, 38, 39, 40, 41, 42, 43, 44, 45, 46, 47, 48, 49, 50, 51, 52, 53, 54, 55, 56, 57, 58, 59, 60, 61, 62, 63, 64, 65, 66, 67, 68, 69, 70, 71, 72, 73, 74, 75, 76, 77, 78, 79, 80, 81, 82, 83, 84, 85, 86, 87, 88, 89, 90, 91, 92, 93, 94, 95, 103, 104, 105, 106, 107, 108, 109, 110, 111, 96, 97, 112, 113, 114, 115, 116, 117, 118, 119, 120, 121, 122, 123, 124, 125, 126, 127, 128] (by decide +kernel) (by decide +kernel)
set_option maxRecDepth 20000 in
theorem gX8_number_X0_growth : GoodIn wsX8_number (wsV RX8 137 RX0 yX0_growth wsX0_growth) := goodIn_app (goodIn_of _ (by decide +kernel)) ggX8_number_X0_growth
theorem dX8_number_0 : decode cX8_number 0 = .ok (.aload_n 0, 1) := by decide +kernel
theorem dX8_number_1 : decode cX8_number 1 = .ok (.iload_n 1, 1) := by decide +kernel
theorem dX8_number_2 : decode cX8_number 2 = .ok (.invokevirtual 90, 3) := by decide +kernel
theorem dX8_number_5 : decode cX8_number 5 = .ok (.astore_n 3, 1) := by decide +kernel
theorem dX8_number_6 : decode cX8_number 6 = .ok (.aload_n 3, 1) := by decide +kernel
theorem dX8_number_7 : decode cX8_number 7 = .ok (.ifnull 12, 3) := by decide +kernel
theorem dX8_number_10 : decode cX8_number 10 = .ok (.iload_n 2, 1) := by decide +kernel
theorem dX8_number_11 : decode cX8_number 11 = .ok (.ifCond .lt 8, 3) := by decide +kernel
theorem dX8_number_14 : decode cX8_number 14 = .ok (.iload_n 2, 1) := by decide +kernel
theorem dX8_number_15 : decode cX8_number 15 = .ok (.iconst 3, 1) := by decide +kernel
theorem dX8_number_16 : decode cX8_number 16 = .ok (.if_icmp .le 6, 3) := by decide +kernel
theorem dX8_number_19 : decode cX8_number 19 = .ok (.ldc 150, 2) := by decide +kernel
theorem dX8_number_21 : decode cX8_number 21 = .ok (.ireturn, 1) := by decide +kernel
theorem dX8_number_22 : decode cX8_number 22 = .ok (.aload_n 3, 1) := by decide +kernel
theorem dX8_number_23 : decode cX8_number 23 = .ok (.invokevirtual 137, 3) := by decide +kernel
theorem dX8_number_26 : decode cX8_number 26 = .ok (.getfield 151, 3) := by decide +kernel
theorem dX8_number_29 : decode cX8_number 29 = .ok (.iload_n 2, 1) := by decide +kernel
theorem dX8_number_30 : decode cX8_number 30 = .ok (.iaload, 1) := by decide +kernel
theorem dX8_number_31 : decode cX8_number 31 = .ok (.ireturn, 1) := by decide +kernel
set_option maxRecDepth 20000 in
theorem ggX8_rule_X8_find : GoodIn wsX8_rule wsX8_find := goodIn_r _ [6, 7, 8, 103, 104, 105, 106, 107] (by decide +kernel) (by decide +kernel)
set_option maxRecDepth 20000 in
theorem gX8_rule_X8_find : GoodIn wsX8_rule (wsV RX8 90 RX8 yX8_find wsX8_find) := goodIn_app (goodIn_of _ (by decide +kernel)) ggX8_rule_X8_find
set_option maxRecDepth 20000 in
theorem ggX8_rule_X8_isAmong : GoodIn wsX8_rule wsX8_isAmong := goodIn_r _ [11] (by decide +kernel) (by decide +kernel)
set_option maxRecDepth 20000 in
theorem gX8_rule_X8_isAmong : GoodIn wsX8_rule (va_wsS RX8 129 yX8_isAmong wsX8_isAmong) := goodIn_app (goodIn_of _ (by decide +kernel)) ggX8_rule_X8_isAmong
set_option maxRecDepth 20000 in
theorem ggX8_rule_X0_growth : GoodIn wsX8_rule wsX0_growth := goodIn_r _ [16, 17, 18, 19, 20, 21, 22, 23, 24, 25, 15, 26, 27, 28, 29, 30, 31, 32, 33, 34, 35, 36, 37, 38, 39, 40, 41, 42, 43, 44, 45, 46, 47, 48, 49, 50, 51, 52, 53, 54, 55, 56, 57, 58, 59, 60, 61, 62, 63, 64, 65, 66, 67, 68, 69, 70, 71, 72, 73, 74, 75, 76, 77, 78, 79, 80, 81, 82, 83, 84, 85, 86, 87, 88, 89, 90, 91, 92, 93, 94, 95, 96, 97, 108, 109, 110, 111, 112, 113, 114, 115, 116, 117, 118, 119, 120, 121, 122, 123, 124, 125, 126, 127, 128, 129, 130, 131, 132, 133, 134, 135] (by decide +kernel) (by decide +kernel)
set_option maxRecDepth 20000 in
theorem gX8_rule_X0_growth : GoodIn wsX8_rule (wsV RX8 137 RX0 yX0_growth wsX0_growth) := goodIn_app (goodIn_of _ (by decide +kernel)) ggX8_rule_X0_growth
set_option maxRecDepth 20000 in
theorem ggX8_rule_X2_at : GoodIn wsX8_rule wsX2_at := goodIn_r _ [101, 95, 102, 117, 118] (by decide +kernel) (by decide +kernel)
set_option maxRecDepth 20000 in
theorem gX8_rule_X2_at : GoodIn wsX8_rule (wsV RX8 141 RX2 yX2_at wsX2_at) := goodIn_app (goodIn_of _ (by decide +kernel)) ggX8_rule_X2_at
theorem dX8_rule_0 : decode cX8_rule 0 = .ok (.aload_n 0, 1) := by decide +kernel
theorem dX8_rule_1 : decode cX8_rule 1 = .ok (.iload_n 1, 1) := by decide +kernel
theorem dX8_rule_2 : decode cX8_rule 2 = .ok (.invokevirtual 90, 3) := by decide +kernel
theorem dX8_rule_5 : decode cX8_rule 5 = .ok (.astore_n 3, 1) := by decide +kernel
theorem dX8_rule_6 : decode cX8_rule 6 = .ok (.aload_n 3, 1) := by decide +kernel
theorem dX8_rule_7 : decode cX8_rule 7 = .ok (.ifnull 14, 3) := by decide +kernel
theorem dX8_rule_10 : decode cX8_rule 10 = .ok (.iload_n 2, 1) := by decide +kernel
theorem dX8_rule_11 : decode cX8_rule 11 = .ok (.i2l, 1) := by decide +kernel
theorem dX8_rule_12 : decode cX8_rule 12 = .ok (.sipush 1000, 3) := by decide +kernel
theorem dX8_rule_15 : decode cX8_rule 15 = .ok (.invokestatic 129, 3) := by decide +kernel
theorem dX8_rule_18 : decode cX8_rule 18 = .ok (.ifCond .ne 7, 3) := by decide +kernel
theorem dX8_rule_21 : decode cX8_rule 21 = .ok (.ldc2_w 155, 3) := by decide +kernel
theorem dX8_rule_24 : decode cX8_rule 24 = .ok (.lreturn, 1) := by decide +kernel
theorem dX8_rule_25 : decode cX8_rule 25 = .ok (.aload_n 3, 1) := by decide +kernel
theorem dX8_rule_26 : decode cX8_rule 26 = .ok (.invokevirtual 137, 3) := by decide +kernel
theorem dX8_rule_29 : decode cX8_rule 29 = .ok (.iload_n 2, 1) := by decide +kernel
theorem dX8_rule_30 : decode cX8_rule 30 = .ok (.i2l, 1) := by decide +kernel
theorem dX8_rule_31 : decode cX8_rule 31 = .ok (.invokevirtual 141, 3) := by decide +kernel
theorem dX8_rule_34 : decode cX8_rule 34 = .ok (.lreturn, 1) := by decide +kernel
set_option maxRecDepth 20000 in
theorem ggX8_stairs_X8_find : GoodIn wsX8_stairs wsX8_find := goodIn_r _ [6, 7, 8, 113, 114, 115, 116, 117] (by decide +kernel) (by decide +kernel)
set_option maxRecDepth 20000 in
theorem gX8_stairs_X8_find : GoodIn wsX8_stairs (wsV RX8 90 RX8 yX8_find wsX8_find) := goodIn_app (goodIn_of _ (by decide +kernel)) ggX8_stairs_X8_find
set_option maxRecDepth 20000 in
theorem ggX8_stairs_X0_growth : GoodIn wsX8_stairs wsX0_growth := goodIn_r _ [13, 14, 15, 16, 17, 18, 19, 20, 21, 22, 12, 23, 24, 25, 26, 27, 28, 29, 30, 31, 32, 33, 34, 35, 36, 37, 38, 39, 40, 41, 42, 43, 44, 45, 46, 47, 48, 49, 50, 51, 52, 53, 54, 55, 56, 57, 58, 59, 60, 61, 62, 63, 64, 65, 66, 67, 68, 69, 70, 71, 72, 73, 74, 75, 76, 77, 78, 79, 80, 81, 82, 83, 84, 85, 86, 87, 88, 89, 90, 91, 92, 93, 94, 104, 105, 106, 107, 108, 109, 110, 111, 112, 118, 119, 120, 121, 122, 123, 124, 125, 126, 127, 128, 129, 130, 131, 132, 133, 134, 135, 136] (by decide +kernel) (by decide +kernel)
set_option maxRecDepth 20000 in
theorem gX8_stairs_X0_growth : GoodIn wsX8_stairs (wsV RX8 137 RX0 yX0_growth wsX0_growth) := goodIn_app (goodIn_of _ (by decide +kernel)) ggX8_stairs_X0_growth
set_option maxRecDepth 20000 in
theorem ggX8_stairs_X2_stair : GoodIn wsX8_stairs wsX2_stair := goodIn_r _ [98, 94, 99, 100, 101, 19, 102, 92, 103, 118, 119] (by decide +kernel) (by decide +kernel)
set_option maxRecDepth 20000 in
theorem gX8_stairs_X2_stair : GoodIn wsX8_stairs (wsV RX8 157 RX2 yX2_stair wsX2_stair) := goodIn_app (goodIn_of _ (by decide +kernel)) ggX8_stairs_X2_stair
theorem dX8_stairs_0 : decode cX8_stairs 0 = .ok (.aload_n 0, 1) := by decide +kernel
theorem dX8_stairs_1 : decode cX8_stairs 1 = .ok (.iload_n 1, 1) := by decide +kernel
theorem dX8_stairs_2 : decode cX8_stairs 2 = .ok (.invokevirtual 90, 3) := by decide +kernel
theorem dX8_stairs_5 : decode cX8_stairs 5 = .ok (.astore_n 3, 1) := by decide +kernel
theorem dX8_stairs_6 : decode cX8_stairs 6 = .ok (.aload_n 3, 1) := by decide +kernel
theorem dX8_stairs_7 : decode cX8_stairs 7 = .ok (.ifnull 15, 3) := by decide +kernel
theorem dX8_stairs_10 : decode cX8_stairs 10 = .ok (.iload_n 2, 1) := by decide +kernel
theorem dX8_stairs_11 : decode cX8_stairs 11 = .ok (.ifCond .lt 11, 3) := by decide +kernel
theorem dX8_stairs_14 : decode cX8_stairs 14 = .ok (.iload_n 2, 1) := by decide +kernel
theorem dX8_stairs_15 : decode cX8_stairs 15 = .ok (.aload_n 3, 1) := by decide +kernel
theorem dX8_stairs_16 : decode cX8_stairs 16 = .ok (.getfield 97, 3) := by decide +kernel
theorem dX8_stairs_19 : decode cX8_stairs 19 = .ok (.if_icmp .le 5, 3) := by decide +kernel
theorem dX8_stairs_22 : decode cX8_stairs 22 = .ok (.iconst (-1), 1) := by decide +kernel
theorem dX8_stairs_23 : decode cX8_stairs 23 = .ok (.ireturn, 1) := by decide +kernel
theorem dX8_stairs_24 : decode cX8_stairs 24 = .ok (.aload_n 3, 1) := by decide +kernel
theorem dX8_stairs_25 : decode cX8_stairs 25 = .ok (.invokevirtual 137, 3) := by decide +kernel
theorem dX8_stairs_28 : decode cX8_stairs 28 = .ok (.iload_n 2, 1) := by decide +kernel
theorem dX8_stairs_29 : decode cX8_stairs 29 = .ok (.invokevirtual 157, 3) := by decide +kernel
theorem dX8_stairs_32 : decode cX8_stairs 32 = .ok (.ireturn, 1) := by decide +kernel
set_option maxRecDepth 20000 in
theorem ggX8_point_X8_find : GoodIn wsX8_point wsX8_find := goodIn_r _ [5, 6, 7, 88, 89, 90, 91, 92] (by decide +kernel) (by decide +kernel)
set_option maxRecDepth 20000 in
theorem gX8_point_X8_find : GoodIn wsX8_point (wsV RX8 90 RX8 yX8_find wsX8_find) := goodIn_app (goodIn_of _ (by decide +kernel)) ggX8_point_X8_find
set_option maxRecDepth 20000 in
theorem ggX8_point_X8_isSwelling : GoodIn wsX8_point wsX8_isSwelling := goodIn_r _ [10] (by decide +kernel) (by decide +kernel)
set_option maxRecDepth 20000 in
theorem gX8_point_X8_isSwelling : GoodIn wsX8_point (va_wsS RX8 147 yX8_isSwelling wsX8_isSwelling) := goodIn_app (goodIn_of _ (by decide +kernel)) ggX8_point_X8_isSwelling
set_option maxRecDepth 20000 in
theorem ggX8_point_X8_isWay : GoodIn wsX8_point wsX8_isWay := goodIn_r _ [13] (by decide +kernel) (by decide +kernel)
set_option maxRecDepth 20000 in
theorem gX8_point_X8_isWay : GoodIn wsX8_point (va_wsS RX8 113 yX8_isWay wsX8_isWay) := goodIn_app (goodIn_of _ (by decide +kernel)) ggX8_point_X8_isWay
set_option maxRecDepth 20000 in
theorem ggX8_point_X0_swelling : GoodIn wsX8_point wsX0_swelling := goodIn_r _ [18, 19, 20, 21, 22, 23, 24, 25, 26, 27, 28, 29, 30, 31, 32, 33, 34, 35, 36, 37, 38, 39, 40, 41, 42, 43, 44, 45, 46, 47, 48, 49, 50, 51, 52, 53, 54, 55, 56, 57, 58, 59, 60, 61, 62, 63, 64, 65, 66, 67, 68, 69, 70, 71, 72, 73, 74, 75, 76, 77, 78, 79, 93, 94, 95, 96, 97, 98, 99, 100, 101, 102, 103, 104, 105, 106, 107, 108, 109, 110, 111, 112, 113, 114, 115, 116, 117, 118] (by decide +kernel) (by decide +kernel)
set_option maxRecDepth 20000 in
theorem gX8_point_X0_swelling : GoodIn wsX8_point (wsV RX8 160 RX0 yX0_swelling wsX0_swelling) := goodIn_app (goodIn_of _ (by decide +kernel)) ggX8_point_X0_swelling
set_option maxRecDepth 20000 in
theorem ggX8_point_X7_pointPart : GoodIn wsX8_point wsX7_pointPart := goodIn_r _ [83, 51, 43, 45, 46, 60, 84, 85, 86, 29, 87, 56, 57, 58, 59, 47, 48, 61, 41, 62, 63, 42, 64, 65, 66, 40, 67, 68, 69, 70, 71, 24, 21, 25, 49, 20, 22, 72, 73, 74, 75, 76, 77, 78, 79, 102, 103, 104, 105, 106, 107, 108, 109, 110, 111, 112, 113, 114, 115, 116, 117, 118] (by decide +kernel) (by decide +kernel)
set_option maxRecDepth 20000 in
theorem gX8_point_X7_pointPart : GoodIn wsX8_point (wsV RX8 164 RX7 yX7_pointPart wsX7_pointPart) := goodIn_app (goodIn_of _ (by decide +kernel)) ggX8_point_X7_pointPart
theorem dX8_point_0 : decode cX8_point 0 = .ok (.aload_n 0, 1) := by decide +kernel
theorem dX8_point_1 : decode cX8_point 1 = .ok (.iload_n 1, 1) := by decide +kernel
theorem dX8_point_2 : decode cX8_point 2 = .ok (.invokevirtual 90, 3) := by decide +kernel
theorem dX8_point_5 : decode cX8_point 5 = .ok (.astore 5, 2) := by decide +kernel
theorem dX8_point_7 : decode cX8_point 7 = .ok (.aload 5, 2) := by decide +kernel
theorem dX8_point_9 : decode cX8_point 9 = .ok (.ifnull 18, 3) := by decide +kernel
theorem dX8_point_12 : decode cX8_point 12 = .ok (.iload_n 2, 1) := by decide +kernel
theorem dX8_point_13 : decode cX8_point 13 = .ok (.invokestatic 147, 3) := by decide +kernel
theorem dX8_point_16 : decode cX8_point 16 = .ok (.ifCond .eq 11, 3) := by decide +kernel
theorem dX8_point_19 : decode cX8_point 19 = .ok (.iload 4, 2) := by decide +kernel
theorem dX8_point_21 : decode cX8_point 21 = .ok (.invokestatic 113, 3) := by decide +kernel
theorem dX8_point_24 : decode cX8_point 24 = .ok (.ifCond .ne 7, 3) := by decide +kernel
theorem dX8_point_27 : decode cX8_point 27 = .ok (.sipush 10000, 3) := by decide +kernel
theorem dX8_point_30 : decode cX8_point 30 = .ok (.ireturn, 1) := by decide +kernel
theorem dX8_point_31 : decode cX8_point 31 = .ok (.aload 5, 2) := by decide +kernel
theorem dX8_point_33 : decode cX8_point 33 = .ok (.iload_n 2, 1) := by decide +kernel
theorem dX8_point_34 : decode cX8_point 34 = .ok (.invokevirtual 160, 3) := by decide +kernel
theorem dX8_point_37 : decode cX8_point 37 = .ok (.iload_n 3, 1) := by decide +kernel
theorem dX8_point_38 : decode cX8_point 38 = .ok (.iload 4, 2) := by decide +kernel
theorem dX8_point_40 : decode cX8_point 40 = .ok (.invokevirtual 164, 3) := by decide +kernel
theorem dX8_point_43 : decode cX8_point 43 = .ok (.ireturn, 1) := by decide +kernel
set_option maxRecDepth 20000 in
theorem ggX8_rank_X8_find : GoodIn wsX8_rank wsX8_find := goodIn_r _ [5, 6, 7, 81, 82, 83, 84, 85] (by decide +kernel) (by decide +kernel)
set_option maxRecDepth 20000 in
theorem gX8_rank_X8_find : GoodIn wsX8_rank (wsV RX8 90 RX8 yX8_find wsX8_find) := goodIn_app (goodIn_of _ (by decide +kernel)) ggX8_rank_X8_find
set_option maxRecDepth 20000 in
theorem ggX8_rank_X8_isSwelling : GoodIn wsX8_rank wsX8_isSwelling := goodIn_r _ [10] (by decide +kernel) (by decide +kernel)
set_option maxRecDepth 20000 in
theorem gX8_rank_X8_isSwelling : GoodIn wsX8_rank (va_wsS RX8 147 yX8_isSwelling wsX8_isSwelling) := goodIn_app (goodIn_of _ (by decide +kernel)) ggX8_rank_X8_isSwelling
set_option maxRecDepth 20000 in
theorem ggX8_rank_X0_swelling : GoodIn wsX8_rank wsX0_swelling := goodIn_r _ [15, 16, 17, 18, 19, 20, 21, 22, 23, 24, 25, 26, 27, 28, 29, 30, 31, 32, 33, 34, 35, 36, 37, 38, 39, 40, 41, 42, 43, 44, 45, 46, 47, 48, 49, 50, 51, 52, 53, 54, 55, 56, 57, 58, 59, 60, 61, 62, 63, 64, 65, 66, 67, 68, 69, 70, 71, 72, 73, 74, 75, 76, 86, 87, 88, 89, 90, 91, 92, 93, 94, 95, 96, 97, 98, 99, 100, 101, 102, 103, 104, 105, 106, 107, 108, 109, 110, 111] (by decide +kernel) (by decide +kernel)
set_option maxRecDepth 20000 in
theorem gX8_rank_X0_swelling : GoodIn wsX8_rank (wsV RX8 160 RX0 yX0_swelling wsX0_swelling) := goodIn_app (goodIn_of _ (by decide +kernel)) ggX8_rank_X0_swelling
set_option maxRecDepth 20000 in
theorem ggX8_rank_X7_rankOf : GoodIn wsX8_rank wsX7_rankOf := goodIn_r _ [80, 40, 41, 42, 43, 48, 57, 58, 49, 50, 51, 26, 52, 53, 54, 55, 56, 44, 45, 38, 59, 60, 39, 61, 62, 63, 37, 64, 65, 66, 67, 68, 21, 18, 22, 46, 17, 19, 69, 70, 71, 72, 73, 74, 75, 76, 95, 96, 97, 98, 99, 100, 101, 102, 103, 104, 105, 106, 107, 108, 109, 110, 111] (by decide +kernel) (by decide +kernel)
set_option maxRecDepth 20000 in
theorem gX8_rank_X7_rankOf : GoodIn wsX8_rank (wsV RX8 169 RX7 yX7_rankOf wsX7_rankOf) := goodIn_app (goodIn_of _ (by decide +kernel)) ggX8_rank_X7_rankOf
theorem dX8_rank_0 : decode cX8_rank 0 = .ok (.aload_n 0, 1) := by decide +kernel
theorem dX8_rank_1 : decode cX8_rank 1 = .ok (.iload_n 1, 1) := by decide +kernel
theorem dX8_rank_2 : decode cX8_rank 2 = .ok (.invokevirtual 90, 3) := by decide +kernel
theorem dX8_rank_5 : decode cX8_rank 5 = .ok (.astore 6, 2) := by decide +kernel
theorem dX8_rank_7 : decode cX8_rank 7 = .ok (.aload 6, 2) := by decide +kernel
theorem dX8_rank_9 : decode cX8_rank 9 = .ok (.ifnull 10, 3) := by decide +kernel
theorem dX8_rank_12 : decode cX8_rank 12 = .ok (.iload_n 2, 1) := by decide +kernel
theorem dX8_rank_13 : decode cX8_rank 13 = .ok (.invokestatic 147, 3) := by decide +kernel
theorem dX8_rank_16 : decode cX8_rank 16 = .ok (.ifCond .ne 5, 3) := by decide +kernel
theorem dX8_rank_19 : decode cX8_rank 19 = .ok (.iconst (-1), 1) := by decide +kernel
theorem dX8_rank_20 : decode cX8_rank 20 = .ok (.ireturn, 1) := by decide +kernel
theorem dX8_rank_21 : decode cX8_rank 21 = .ok (.aload 6, 2) := by decide +kernel
theorem dX8_rank_23 : decode cX8_rank 23 = .ok (.iload_n 2, 1) := by decide +kernel
theorem dX8_rank_24 : decode cX8_rank 24 = .ok (.invokevirtual 160, 3) := by decide +kernel
theorem dX8_rank_27 : decode cX8_rank 27 = .ok (.iload_n 3, 1) := by decide +kernel
theorem dX8_rank_28 : decode cX8_rank 28 = .ok (.iload 4, 2) := by decide +kernel
theorem dX8_rank_30 : decode cX8_rank 30 = .ok (.iload 5, 2) := by decide +kernel
theorem dX8_rank_32 : decode cX8_rank 32 = .ok (.invokevirtual 169, 3) := by decide +kernel
theorem dX8_rank_35 : decode cX8_rank 35 = .ok (.ireturn, 1) := by decide +kernel
set_option maxRecDepth 20000 in
theorem ggX8_move_X8_find : GoodIn wsX8_move wsX8_find := goodIn_r _ [11, 12, 13, 255, 256, 257, 258, 259] (by decide +kernel) (by decide +kernel)
set_option maxRecDepth 20000 in
theorem gX8_move_X8_find : GoodIn wsX8_move (wsV RX8 90 RX8 yX8_find wsX8_find) := goodIn_app (goodIn_of _ (by decide +kernel)) ggX8_move_X8_find
set_option maxRecDepth 20000 in
theorem ggX8_move_X3_begin : GoodIn wsX8_move wsX3_begin := goodIn_r _ [18, 19, 20, 273, 274, 275, 276, 277, 278, 279, 280, 269, 270, 271, 272] (by decide +kernel) (by decide +kernel)
set_option maxRecDepth 20000 in
theorem gX8_move_X3_begin : GoodIn wsX8_move (wsV RX8 79 RX3 yX3_begin wsX3_begin) := goodIn_app (goodIn_of _ (by decide +kernel)) ggX8_move_X3_begin
set_option maxRecDepth 20000 in
theorem ggX8_move_X8_takeInReach : GoodIn wsX8_move wsX8_takeInReach := goodIn_r _ [24, 1, 25, 26, 27, 10, 28, 29, 30, 31, 32, 33, 34, 35, 36, 37, 38, 39, 40, 255, 256, 257, 258, 259, 273, 274, 275, 276, 277, 278, 279, 280, 269, 270, 271, 272] (by decide +kernel) (by decide +kernel)
set_option maxRecDepth 20000 in
theorem gX8_move_X8_takeInReach : GoodIn wsX8_move (wsV RX8 182 RX8 yX8_takeInReach wsX8_takeInReach) := goodIn_app (goodIn_of _ (by decide +kernel)) ggX8_move_X8_takeInReach
set_option maxRecDepth 20000 in
theorem ggX8_move_X8_keepMade : GoodIn wsX8_move wsX8_keepMade := goodIn_r _ [44, 12, 13, 1, 45, 46, 47, 17, 48, 19, 20, 49, 50, 51, 52, 53, 54, 55, 56, 57, 58, 35, 59, 37, 60, 61, 62, 63, 38, 39, 40, 64, 65, 66, 67, 68, 69, 70, 71, 72, 73, 74, 75, 76, 77, 78, 79, 80, 81, 82, 83, 84, 85, 86, 87, 88, 89, 90, 91, 92, 93, 94, 95, 96, 97, 98, 99, 100, 101, 102, 103, 104, 105, 106, 107, 108, 109, 110, 111, 112, 113, 114, 115, 116, 117, 118, 119, 120, 121, 122, 123, 124, 125, 126, 127, 128, 129, 130, 131, 132, 133, 134, 135, 136, 137, 138, 139, 140, 141, 142, 143, 144, 145, 146, 147, 148, 149, 150, 151, 152, 153, 154, 155, 156, 157, 158, 159, 160, 161, 162, 163, 164, 165, 166, 167, 168, 169, 170, 171, 172, 173, 174, 175, 176, 177, 178, 179, 180, 181, 182, 183, 184, 185, 186, 187, 188, 189, 190, 191, 192, 193, 194, 195, 196, 197, 198, 199, 200, 201, 202, 203, 204, 205, 206, 207, 208, 209, 210, 211, 212, 213, 214, 215, 216, 217, 218, 219, 220, 221, 222, 223, 224, 225, 226, 227, 228, 229, 230, 231, 232, 233, 234, 235, 236, 237, 238, 239, 240, 241, 242, 243, 244, 245, 246, 247, 248, 249, 250, 251, 252, 253, 254, 255, 256, 257, 258, 259, 273, 274, 275, 276, 277, 278, 279, 280, 269, 270, 271, 272, 281, 282, 283, 284, 285, 260, 261, 262, 263, 264, 265, 266, 267, 268, 286, 287, 288] (by decide +kernel) (by decide +kernel)
set_option maxRecDepth 20000 in
theorem gX8_move_X8_keepMade : GoodIn wsX8_move (wsV RX8 86 RX8 yX8_keepMade wsX8_keepMade) := goodIn_app (goodIn_of _ (by decide +kernel)) ggX8_move_X8_keepMade
theorem dX8_move_0 : decode cX8_move 0 = .ok (.aload_n 0, 1) := by decide +kernel
theorem dX8_move_1 : decode cX8_move 1 = .ok (.iload_n 1, 1) := by decide +kernel
theorem dX8_move_2 : decode cX8_move 2 = .ok (.invokevirtual 90, 3) := by decide +kernel
theorem dX8_move_5 : decode cX8_move 5 = .ok (.astore 5, 2) := by decide +kernel
theorem dX8_move_7 : decode cX8_move 7 = .ok (.aload 5, 2) := by decide +kernel
theorem dX8_move_9 : decode cX8_move 9 = .ok (.ifnonnull 5, 3) := by decide +kernel
theorem dX8_move_12 : decode cX8_move 12 = .ok (.iconst (-1), 1) := by decide +kernel
theorem dX8_move_13 : decode cX8_move 13 = .ok (.ireturn, 1) := by decide +kernel
theorem dX8_move_14 : decode cX8_move 14 = .ok (.aload_n 0, 1) := by decide +kernel
theorem dX8_move_15 : decode cX8_move 15 = .ok (.getfield 33, 3) := by decide +kernel
theorem dX8_move_18 : decode cX8_move 18 = .ok (.invokevirtual 79, 3) := by decide +kernel
theorem dX8_move_21 : decode cX8_move 21 = .ok (.iconst 0, 1) := by decide +kernel
theorem dX8_move_22 : decode cX8_move 22 = .ok (.istore 6, 2) := by decide +kernel
theorem dX8_move_24 : decode cX8_move 24 = .ok (.iload 6, 2) := by decide +kernel
theorem dX8_move_26 : decode cX8_move 26 = .ok (.aload 5, 2) := by decide +kernel
theorem dX8_move_28 : decode cX8_move 28 = .ok (.getfield 100, 3) := by decide +kernel
theorem dX8_move_31 : decode cX8_move 31 = .ok (.getfield 42, 3) := by decide +kernel
theorem dX8_move_34 : decode cX8_move 34 = .ok (.if_icmp .ge 76, 3) := by decide +kernel
theorem dX8_move_37 : decode cX8_move 37 = .ok (.aload 5, 2) := by decide +kernel
theorem dX8_move_39 : decode cX8_move 39 = .ok (.getfield 100, 3) := by decide +kernel
theorem dX8_move_42 : decode cX8_move 42 = .ok (.getfield 173, 3) := by decide +kernel
theorem dX8_move_45 : decode cX8_move 45 = .ok (.iload 6, 2) := by decide +kernel
theorem dX8_move_47 : decode cX8_move 47 = .ok (.iaload, 1) := by decide +kernel
theorem dX8_move_48 : decode cX8_move 48 = .ok (.i2l, 1) := by decide +kernel
theorem dX8_move_49 : decode cX8_move 49 = .ok (.iload_n 2, 1) := by decide +kernel
theorem dX8_move_50 : decode cX8_move 50 = .ok (.i2l, 1) := by decide +kernel
theorem dX8_move_51 : decode cX8_move 51 = .ok (.ladd, 1) := by decide +kernel
theorem dX8_move_52 : decode cX8_move 52 = .ok (.lstore 7, 2) := by decide +kernel
theorem dX8_move_54 : decode cX8_move 54 = .ok (.aload 5, 2) := by decide +kernel
theorem dX8_move_56 : decode cX8_move 56 = .ok (.getfield 100, 3) := by decide +kernel
theorem dX8_move_59 : decode cX8_move 59 = .ok (.getfield 176, 3) := by decide +kernel
theorem dX8_move_62 : decode cX8_move 62 = .ok (.iload 6, 2) := by decide +kernel
theorem dX8_move_64 : decode cX8_move 64 = .ok (.iaload, 1) := by decide +kernel
theorem dX8_move_65 : decode cX8_move 65 = .ok (.i2l, 1) := by decide +kernel
theorem dX8_move_66 : decode cX8_move 66 = .ok (.iload_n 3, 1) := by decide +kernel
theorem dX8_move_67 : decode cX8_move 67 = .ok (.i2l, 1) := by decide +kernel
theorem dX8_move_68 : decode cX8_move 68 = .ok (.ladd, 1) := by decide +kernel
theorem dX8_move_69 : decode cX8_move 69 = .ok (.lstore 9, 2) := by decide +kernel
theorem dX8_move_71 : decode cX8_move 71 = .ok (.aload 5, 2) := by decide +kernel
theorem dX8_move_73 : decode cX8_move 73 = .ok (.getfield 100, 3) := by decide +kernel
theorem dX8_move_76 : decode cX8_move 76 = .ok (.getfield 179, 3) := by decide +kernel
theorem dX8_move_79 : decode cX8_move 79 = .ok (.iload 6, 2) := by decide +kernel
theorem dX8_move_81 : decode cX8_move 81 = .ok (.iaload, 1) := by decide +kernel
theorem dX8_move_82 : decode cX8_move 82 = .ok (.i2l, 1) := by decide +kernel
theorem dX8_move_83 : decode cX8_move 83 = .ok (.iload 4, 2) := by decide +kernel
theorem dX8_move_85 : decode cX8_move 85 = .ok (.i2l, 1) := by decide +kernel
theorem dX8_move_86 : decode cX8_move 86 = .ok (.ladd, 1) := by decide +kernel
theorem dX8_move_87 : decode cX8_move 87 = .ok (.lstore 11, 2) := by decide +kernel
theorem dX8_move_89 : decode cX8_move 89 = .ok (.aload_n 0, 1) := by decide +kernel
theorem dX8_move_90 : decode cX8_move 90 = .ok (.lload 7, 2) := by decide +kernel
theorem dX8_move_92 : decode cX8_move 92 = .ok (.lload 9, 2) := by decide +kernel
theorem dX8_move_94 : decode cX8_move 94 = .ok (.lload 11, 2) := by decide +kernel
theorem dX8_move_96 : decode cX8_move 96 = .ok (.invokevirtual 182, 3) := by decide +kernel
theorem dX8_move_99 : decode cX8_move 99 = .ok (.ifCond .ne 5, 3) := by decide +kernel
theorem dX8_move_102 : decode cX8_move 102 = .ok (.iconst (-1), 1) := by decide +kernel
theorem dX8_move_103 : decode cX8_move 103 = .ok (.ireturn, 1) := by decide +kernel
theorem dX8_move_104 : decode cX8_move 104 = .ok (.iinc 6 1, 3) := by decide +kernel
theorem dX8_move_107 : decode cX8_move 107 = .ok (.goto (-83), 3) := by decide +kernel
theorem dX8_move_110 : decode cX8_move 110 = .ok (.aload_n 0, 1) := by decide +kernel
theorem dX8_move_111 : decode cX8_move 111 = .ok (.invokevirtual 86, 3) := by decide +kernel
theorem dX8_move_114 : decode cX8_move 114 = .ok (.ireturn, 1) := by decide +kernel
set_option maxRecDepth 20000 in
theorem ggX8_turn_X8_find : GoodIn wsX8_turn wsX8_find := goodIn_r _ [11, 12, 13, 259, 260, 261, 262, 263] (by decide +kernel) (by decide +kernel)
set_option maxRecDepth 20000 in
theorem gX8_turn_X8_find : GoodIn wsX8_turn (wsV RX8 90 RX8 yX8_find wsX8_find) := goodIn_app (goodIn_of _ (by decide +kernel)) ggX8_turn_X8_find
set_option maxRecDepth 20000 in
theorem ggX8_turn_X3_begin : GoodIn wsX8_turn wsX3_begin := goodIn_r _ [18, 19, 20, 277, 278, 279, 280, 281, 282, 283, 284, 273, 274, 275, 276] (by decide +kernel) (by decide +kernel)
set_option maxRecDepth 20000 in
theorem gX8_turn_X3_begin : GoodIn wsX8_turn (wsV RX8 79 RX3 yX3_begin wsX3_begin) := goodIn_app (goodIn_of _ (by decide +kernel)) ggX8_turn_X3_begin
set_option maxRecDepth 20000 in
theorem ggX8_turn_X8_takeTurned : GoodIn wsX8_turn wsX8_takeTurned := goodIn_r _ [24, 25, 26, 27, 10, 28, 1, 29, 30, 31, 32, 33, 34, 35, 36, 37, 38, 39, 40, 41, 42, 43, 44, 259, 260, 261, 262, 263, 277, 278, 279, 280, 281, 282, 283, 284, 273, 274, 275, 276] (by decide +kernel) (by decide +kernel)
set_option maxRecDepth 20000 in
theorem gX8_turn_X8_takeTurned : GoodIn wsX8_turn (wsV RX8 185 RX8 yX8_takeTurned wsX8_takeTurned) := goodIn_app (goodIn_of _ (by decide +kernel)) ggX8_turn_X8_takeTurned
set_option maxRecDepth 20000 in
theorem ggX8_turn_X8_keepMade : GoodIn wsX8_turn wsX8_keepMade := goodIn_r _ [48, 12, 13, 1, 49, 50, 51, 17, 52, 19, 20, 53, 54, 55, 56, 57, 58, 59, 60, 61, 62, 39, 63, 41, 64, 65, 66, 67, 42, 43, 44, 68, 69, 70, 71, 72, 73, 74, 75, 76, 77, 78, 79, 80, 81, 82, 83, 84, 85, 86, 87, 88, 89, 90, 91, 92, 93, 94, 95, 96, 97, 98, 99, 100, 101, 102, 103, 104, 105, 106, 107, 108, 109, 110, 111, 112, 113, 114, 115, 116, 117, 118, 119, 120, 121, 122, 123, 124, 125, 126, 127, 128, 129, 130, 131, 132, 133, 134, 135, 136, 137, 138, 139, 140, 141, 142, 143, 144, 145, 146, 147, 148, 149, 150, 151, 152, 153, 154, 155, 156, 157, 158, 159, 160, 161, 162, 163, 164, 165, 166, 167, 168, 169, 170, 171, 172, 173, 174, 175, 176, 177, 178, 179, 180, 181, 182, 183, 184, 185, 186, 187, 188, 189, 190, 191, 192, 193, 194, 195, 196, 197, 198, 199, 200, 201, 202, 203, 204, 205, 206, 207, 208, 209, 210, 211, 212, 213, 214, 215, 216, 217, 218, 219, 220, 221, 222, 223, 224, 225, 226, 227, 228, 229, 230, 231, 232, 233, 234, 235, 236, 237, 238, 239, 240, 241, 242, 243, 244, 245, 246, 247, 248, 249, 250, 251, 252, 253, 254, 255, 256, 257, 258, 259, 260, 261, 262, 263, 277, 278, 279, 280, 281, 282, 283, 284, 273, 274, 275, 276, 285, 286, 287, 288, 289, 264, 265, 266, 267, 268, 269, 270, 271, 272, 290, 291, 292] (by decide +kernel) (by decide +kernel)
set_option maxRecDepth 20000 in
theorem gX8_turn_X8_keepMade : GoodIn wsX8_turn (wsV RX8 86 RX8 yX8_keepMade wsX8_keepMade) := goodIn_app (goodIn_of _ (by decide +kernel)) ggX8_turn_X8_keepMade
theorem dX8_turn_0 : decode cX8_turn 0 = .ok (.aload_n 0, 1) := by decide +kernel
theorem dX8_turn_1 : decode cX8_turn 1 = .ok (.iload_n 1, 1) := by decide +kernel
theorem dX8_turn_2 : decode cX8_turn 2 = .ok (.invokevirtual 90, 3) := by decide +kernel
theorem dX8_turn_5 : decode cX8_turn 5 = .ok (.astore_n 3, 1) := by decide +kernel
theorem dX8_turn_6 : decode cX8_turn 6 = .ok (.aload_n 3, 1) := by decide +kernel
theorem dX8_turn_7 : decode cX8_turn 7 = .ok (.ifnull 12, 3) := by decide +kernel
theorem dX8_turn_10 : decode cX8_turn 10 = .ok (.iload_n 2, 1) := by decide +kernel
theorem dX8_turn_11 : decode cX8_turn 11 = .ok (.ifCond .lt 8, 3) := by decide +kernel
theorem dX8_turn_14 : decode cX8_turn 14 = .ok (.iload_n 2, 1) := by decide +kernel
theorem dX8_turn_15 : decode cX8_turn 15 = .ok (.iconst 4, 1) := by decide +kernel
theorem dX8_turn_16 : decode cX8_turn 16 = .ok (.if_icmp .le 5, 3) := by decide +kernel
theorem dX8_turn_19 : decode cX8_turn 19 = .ok (.iconst (-1), 1) := by decide +kernel
theorem dX8_turn_20 : decode cX8_turn 20 = .ok (.ireturn, 1) := by decide +kernel
theorem dX8_turn_21 : decode cX8_turn 21 = .ok (.aload_n 0, 1) := by decide +kernel
theorem dX8_turn_22 : decode cX8_turn 22 = .ok (.getfield 33, 3) := by decide +kernel
theorem dX8_turn_25 : decode cX8_turn 25 = .ok (.invokevirtual 79, 3) := by decide +kernel
theorem dX8_turn_28 : decode cX8_turn 28 = .ok (.iconst 0, 1) := by decide +kernel
theorem dX8_turn_29 : decode cX8_turn 29 = .ok (.istore 4, 2) := by decide +kernel
theorem dX8_turn_31 : decode cX8_turn 31 = .ok (.iload 4, 2) := by decide +kernel
theorem dX8_turn_33 : decode cX8_turn 33 = .ok (.aload_n 3, 1) := by decide +kernel
theorem dX8_turn_34 : decode cX8_turn 34 = .ok (.getfield 100, 3) := by decide +kernel
theorem dX8_turn_37 : decode cX8_turn 37 = .ok (.getfield 42, 3) := by decide +kernel
theorem dX8_turn_40 : decode cX8_turn 40 = .ok (.if_icmp .ge 49, 3) := by decide +kernel
theorem dX8_turn_43 : decode cX8_turn 43 = .ok (.aload_n 0, 1) := by decide +kernel
theorem dX8_turn_44 : decode cX8_turn 44 = .ok (.aload_n 3, 1) := by decide +kernel
theorem dX8_turn_45 : decode cX8_turn 45 = .ok (.getfield 100, 3) := by decide +kernel
theorem dX8_turn_48 : decode cX8_turn 48 = .ok (.getfield 173, 3) := by decide +kernel
theorem dX8_turn_51 : decode cX8_turn 51 = .ok (.iload 4, 2) := by decide +kernel
theorem dX8_turn_53 : decode cX8_turn 53 = .ok (.iaload, 1) := by decide +kernel
theorem dX8_turn_54 : decode cX8_turn 54 = .ok (.aload_n 3, 1) := by decide +kernel
theorem dX8_turn_55 : decode cX8_turn 55 = .ok (.getfield 100, 3) := by decide +kernel
theorem dX8_turn_58 : decode cX8_turn 58 = .ok (.getfield 176, 3) := by decide +kernel
theorem dX8_turn_61 : decode cX8_turn 61 = .ok (.iload 4, 2) := by decide +kernel
theorem dX8_turn_63 : decode cX8_turn 63 = .ok (.iaload, 1) := by decide +kernel
theorem dX8_turn_64 : decode cX8_turn 64 = .ok (.aload_n 3, 1) := by decide +kernel
theorem dX8_turn_65 : decode cX8_turn 65 = .ok (.getfield 100, 3) := by decide +kernel
theorem dX8_turn_68 : decode cX8_turn 68 = .ok (.getfield 179, 3) := by decide +kernel
theorem dX8_turn_71 : decode cX8_turn 71 = .ok (.iload 4, 2) := by decide +kernel
theorem dX8_turn_73 : decode cX8_turn 73 = .ok (.iaload, 1) := by decide +kernel
theorem dX8_turn_74 : decode cX8_turn 74 = .ok (.iload_n 2, 1) := by decide +kernel
theorem dX8_turn_75 : decode cX8_turn 75 = .ok (.invokevirtual 185, 3) := by decide +kernel
theorem dX8_turn_78 : decode cX8_turn 78 = .ok (.ifCond .ne 5, 3) := by decide +kernel
theorem dX8_turn_81 : decode cX8_turn 81 = .ok (.iconst (-1), 1) := by decide +kernel
theorem dX8_turn_82 : decode cX8_turn 82 = .ok (.ireturn, 1) := by decide +kernel
theorem dX8_turn_83 : decode cX8_turn 83 = .ok (.iinc 4 1, 3) := by decide +kernel
theorem dX8_turn_86 : decode cX8_turn 86 = .ok (.goto (-55), 3) := by decide +kernel
theorem dX8_turn_89 : decode cX8_turn 89 = .ok (.aload_n 0, 1) := by decide +kernel
theorem dX8_turn_90 : decode cX8_turn 90 = .ok (.invokevirtual 86, 3) := by decide +kernel
theorem dX8_turn_93 : decode cX8_turn 93 = .ok (.ireturn, 1) := by decide +kernel
set_option maxRecDepth 20000 in
theorem ggX8_takeTurned_X8_takeInReach : GoodIn wsX8_takeTurned wsX8_takeInReach := goodIn_r _ [5, 6, 7, 8, 9, 4, 10, 11, 12, 13, 14, 15, 16, 17, 18, 19, 20, 21, 22, 23, 24, 25, 26, 27, 28, 29, 30, 31, 32, 33, 34, 35, 36, 37, 38, 39] (by decide +kernel) (by decide +kernel)
set_option maxRecDepth 20000 in
theorem gX8_takeTurned_X8_takeInReach : GoodIn wsX8_takeTurned (wsV RX8 182 RX8 yX8_takeInReach wsX8_takeInReach) := goodIn_app (goodIn_of _ (by decide +kernel)) ggX8_takeTurned_X8_takeInReach
theorem dX8_takeTurned_0 : decode cX8_takeTurned 0 = .ok (.iload 4, 2) := by decide +kernel
theorem dX8_takeTurned_2 : decode cX8_takeTurned 2 = .ok (.tableswitch 94 0 4 #[34, 45, 56, 68, 81], 34) := by decide +kernel
theorem dX8_takeTurned_36 : decode cX8_takeTurned 36 = .ok (.aload_n 0, 1) := by decide +kernel
theorem dX8_takeTurned_37 : decode cX8_takeTurned 37 = .ok (.iload_n 2, 1) := by decide +kernel
theorem dX8_takeTurned_38 : decode cX8_takeTurned 38 = .ok (.i2l, 1) := by decide +kernel
theorem dX8_takeTurned_39 : decode cX8_takeTurned 39 = .ok (.iload_n 1, 1) := by decide +kernel
theorem dX8_takeTurned_40 : decode cX8_takeTurned 40 = .ok (.i2l, 1) := by decide +kernel
theorem dX8_takeTurned_41 : decode cX8_takeTurned 41 = .ok (.iload_n 3, 1) := by decide +kernel
theorem dX8_takeTurned_42 : decode cX8_takeTurned 42 = .ok (.i2l, 1) := by decide +kernel
theorem dX8_takeTurned_43 : decode cX8_takeTurned 43 = .ok (.invokevirtual 182, 3) := by decide +kernel
theorem dX8_takeTurned_46 : decode cX8_takeTurned 46 = .ok (.ireturn, 1) := by decide +kernel
theorem dX8_takeTurned_47 : decode cX8_takeTurned 47 = .ok (.aload_n 0, 1) := by decide +kernel
theorem dX8_takeTurned_48 : decode cX8_takeTurned 48 = .ok (.iload_n 1, 1) := by decide +kernel
theorem dX8_takeTurned_49 : decode cX8_takeTurned 49 = .ok (.i2l, 1) := by decide +kernel
theorem dX8_takeTurned_50 : decode cX8_takeTurned 50 = .ok (.iload_n 3, 1) := by decide +kernel
theorem dX8_takeTurned_51 : decode cX8_takeTurned 51 = .ok (.i2l, 1) := by decide +kernel
theorem dX8_takeTurned_52 : decode cX8_takeTurned 52 = .ok (.iload_n 2, 1) := by decide +kernel
theorem dX8_takeTurned_53 : decode cX8_takeTurned 53 = .ok (.i2l, 1) := by decide +kernel
theorem dX8_takeTurned_54 : decode cX8_takeTurned 54 = .ok (.invokevirtual 182, 3) := by decide +kernel
theorem dX8_takeTurned_57 : decode cX8_takeTurned 57 = .ok (.ireturn, 1) := by decide +kernel
theorem dX8_takeTurned_58 : decode cX8_takeTurned 58 = .ok (.aload_n 0, 1) := by decide +kernel
theorem dX8_takeTurned_59 : decode cX8_takeTurned 59 = .ok (.iload_n 1, 1) := by decide +kernel
theorem dX8_takeTurned_60 : decode cX8_takeTurned 60 = .ok (.ineg, 1) := by decide +kernel
theorem dX8_takeTurned_61 : decode cX8_takeTurned 61 = .ok (.i2l, 1) := by decide +kernel
theorem dX8_takeTurned_62 : decode cX8_takeTurned 62 = .ok (.iload_n 2, 1) := by decide +kernel
theorem dX8_takeTurned_63 : decode cX8_takeTurned 63 = .ok (.i2l, 1) := by decide +kernel
theorem dX8_takeTurned_64 : decode cX8_takeTurned 64 = .ok (.iload_n 3, 1) := by decide +kernel
theorem dX8_takeTurned_65 : decode cX8_takeTurned 65 = .ok (.i2l, 1) := by decide +kernel
theorem dX8_takeTurned_66 : decode cX8_takeTurned 66 = .ok (.invokevirtual 182, 3) := by decide +kernel
theorem dX8_takeTurned_69 : decode cX8_takeTurned 69 = .ok (.ireturn, 1) := by decide +kernel
theorem dX8_takeTurned_70 : decode cX8_takeTurned 70 = .ok (.aload_n 0, 1) := by decide +kernel
theorem dX8_takeTurned_71 : decode cX8_takeTurned 71 = .ok (.iload_n 1, 1) := by decide +kernel
theorem dX8_takeTurned_72 : decode cX8_takeTurned 72 = .ok (.iload_n 2, 1) := by decide +kernel
theorem dX8_takeTurned_73 : decode cX8_takeTurned 73 = .ok (.iadd, 1) := by decide +kernel
theorem dX8_takeTurned_74 : decode cX8_takeTurned 74 = .ok (.i2l, 1) := by decide +kernel
theorem dX8_takeTurned_75 : decode cX8_takeTurned 75 = .ok (.iload_n 2, 1) := by decide +kernel
theorem dX8_takeTurned_76 : decode cX8_takeTurned 76 = .ok (.i2l, 1) := by decide +kernel
theorem dX8_takeTurned_77 : decode cX8_takeTurned 77 = .ok (.iload_n 3, 1) := by decide +kernel
theorem dX8_takeTurned_78 : decode cX8_takeTurned 78 = .ok (.i2l, 1) := by decide +kernel
theorem dX8_takeTurned_79 : decode cX8_takeTurned 79 = .ok (.invokevirtual 182, 3) := by decide +kernel
theorem dX8_takeTurned_82 : decode cX8_takeTurned 82 = .ok (.ireturn, 1) := by decide +kernel
theorem dX8_takeTurned_83 : decode cX8_takeTurned 83 = .ok (.aload_n 0, 1) := by decide +kernel
theorem dX8_takeTurned_84 : decode cX8_takeTurned 84 = .ok (.iload_n 1, 1) := by decide +kernel
theorem dX8_takeTurned_85 : decode cX8_takeTurned 85 = .ok (.i2l, 1) := by decide +kernel
theorem dX8_takeTurned_86 : decode cX8_takeTurned 86 = .ok (.iload_n 2, 1) := by decide +kernel
theorem dX8_takeTurned_87 : decode cX8_takeTurned 87 = .ok (.i2l, 1) := by decide +kernel
theorem dX8_takeTurned_88 : decode cX8_takeTurned 88 = .ok (.iload_n 3, 1) := by decide +kernel
theorem dX8_takeTurned_89 : decode cX8_takeTurned 89 = .ok (.iload_n 1, 1) := by decide +kernel
theorem dX8_takeTurned_90 : decode cX8_takeTurned 90 = .ok (.isub, 1) := by decide +kernel
theorem dX8_takeTurned_91 : decode cX8_takeTurned 91 = .ok (.i2l, 1) := by decide +kernel
