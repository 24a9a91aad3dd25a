theorem dX8_takeTurned_92 : decode cX8_takeTurned 92 = .ok (.invokevirtual 182, 3) := by decide +kernel
theorem dX8_takeTurned_95 : decode cX8_takeTurned 95 = .ok (.ireturn, 1) := by decide +kernel
theorem dX8_takeTurned_96 : decode cX8_takeTurned 96 = .ok (.iconst 0, 1) := by decide +kernel
theorem dX8_takeTurned_97 : decode cX8_takeTurned 97 = .ok (.ireturn, 1) := by decide +kernel
set_option maxRecDepth 20000 in
theorem ggX8_join_X8_find : GoodIn wsX8_join wsX8_find := goodIn_r _ [8, 9, 10, 258, 259, 260, 261, 262] (by decide +kernel) (by decide +kernel)
set_option maxRecDepth 20000 in
theorem gX8_join_X8_find : GoodIn wsX8_join (wsV RX8 90 RX8 yX8_find wsX8_find) := goodIn_app (goodIn_of _ (by decide +kernel)) ggX8_join_X8_find
set_option maxRecDepth 20000 in
theorem ggX8_join_X3_begin : GoodIn wsX8_join wsX3_begin := goodIn_r _ [15, 16, 17, 263, 264, 265, 266, 267, 268, 269, 270, 254, 255, 256, 257] (by decide +kernel) (by decide +kernel)
set_option maxRecDepth 20000 in
theorem gX8_join_X3_begin : GoodIn wsX8_join (wsV RX8 79 RX3 yX3_begin wsX3_begin) := goodIn_app (goodIn_of _ (by decide +kernel)) ggX8_join_X3_begin
set_option maxRecDepth 20000 in
theorem ggX8_join_X3_takeAll : GoodIn wsX8_join wsX3_takeAll := goodIn_r _ [21, 17, 16, 22, 23, 24, 25, 26, 27, 28, 29, 30, 31, 32, 33, 254, 255, 256, 257, 263, 264, 265, 266, 267, 268, 269, 270] (by decide +kernel) (by decide +kernel)
set_option maxRecDepth 20000 in
theorem gX8_join_X3_takeAll : GoodIn wsX8_join (wsV RX8 82 RX3 yX3_takeAll wsX3_takeAll) := goodIn_app (goodIn_of _ (by decide +kernel)) ggX8_join_X3_takeAll
set_option maxRecDepth 20000 in
theorem ggX8_join_X8_keepMade : GoodIn wsX8_join wsX8_keepMade := goodIn_r _ [37, 9, 10, 3, 38, 39, 40, 14, 41, 16, 17, 42, 43, 44, 45, 46, 47, 48, 49, 50, 51, 28, 52, 30, 53, 54, 55, 56, 31, 32, 33, 57, 58, 59, 60, 61, 62, 63, 64, 65, 66, 67, 68, 69, 70, 71, 72, 73, 74, 75, 76, 77, 78, 79, 80, 81, 82, 83, 84, 85, 86, 87, 88, 89, 90, 91, 92, 93, 94, 95, 96, 97, 98, 99, 100, 101, 102, 103, 104, 105, 106, 107, 108, 109, 110, 111, 112, 113, 22, 23, 24, 114, 115, 116, 117, 118, 119, 120, 121, 122, 123, 124, 125, 126, 127, 128, 129, 130, 131, 132, 133, 134, 135, 136, 137, 138, 139, 140, 141, 142, 143, 144, 145, 146, 147, 148, 149, 150, 151, 152, 153, 154, 155, 156, 157, 158, 159, 160, 161, 162, 163, 164, 165, 166, 167, 168, 169, 170, 171, 172, 173, 174, 175, 176, 177, 178, 179, 180, 181, 182, 183, 184, 185, 186, 187, 188, 189, 190, 191, 192, 193, 194, 195, 196, 197, 198, 199, 200, 201, 202, 203, 204, 205, 206, 207, 208, 209, 210, 211, 212, 213, 214, 215, 216, 217, 218, 219, 220, 221, 222, 223, 224, 225, 226, 227, 228, 229, 230, 231, 232, 233, 234, 235, 236, 237, 238, 239, 240, 241, 242, 243, 244, 258, 259, 260, 261, 262, 263, 264, 265, 266, 267, 268, 269, 270, 254, 255, 256, 257, 271, 272, 273, 274, 275, 245, 246, 247, 248, 249, 250, 251, 252, 253, 276, 277, 278] (by decide +kernel) (by decide +kernel)
set_option maxRecDepth 20000 in
theorem gX8_join_X8_keepMade : GoodIn wsX8_join (wsV RX8 86 RX8 yX8_keepMade wsX8_keepMade) := goodIn_app (goodIn_of _ (by decide +kernel)) ggX8_join_X8_keepMade
theorem dX8_join_0 : decode cX8_join 0 = .ok (.aload_n 0, 1) := by decide +kernel
theorem dX8_join_1 : decode cX8_join 1 = .ok (.iload_n 1, 1) := by decide +kernel
theorem dX8_join_2 : decode cX8_join 2 = .ok (.invokevirtual 90, 3) := by decide +kernel
theorem dX8_join_5 : decode cX8_join 5 = .ok (.astore_n 3, 1) := by decide +kernel
theorem dX8_join_6 : decode cX8_join 6 = .ok (.aload_n 0, 1) := by decide +kernel
theorem dX8_join_7 : decode cX8_join 7 = .ok (.iload_n 2, 1) := by decide +kernel
theorem dX8_join_8 : decode cX8_join 8 = .ok (.invokevirtual 90, 3) := by decide +kernel
theorem dX8_join_11 : decode cX8_join 11 = .ok (.astore 4, 2) := by decide +kernel
theorem dX8_join_13 : decode cX8_join 13 = .ok (.aload_n 3, 1) := by decide +kernel
theorem dX8_join_14 : decode cX8_join 14 = .ok (.ifnull 8, 3) := by decide +kernel
theorem dX8_join_17 : decode cX8_join 17 = .ok (.aload 4, 2) := by decide +kernel
theorem dX8_join_19 : decode cX8_join 19 = .ok (.ifnonnull 5, 3) := by decide +kernel
theorem dX8_join_22 : decode cX8_join 22 = .ok (.iconst (-1), 1) := by decide +kernel
theorem dX8_join_23 : decode cX8_join 23 = .ok (.ireturn, 1) := by decide +kernel
theorem dX8_join_24 : decode cX8_join 24 = .ok (.aload_n 3, 1) := by decide +kernel
theorem dX8_join_25 : decode cX8_join 25 = .ok (.getfield 100, 3) := by decide +kernel
theorem dX8_join_28 : decode cX8_join 28 = .ok (.getfield 42, 3) := by decide +kernel
theorem dX8_join_31 : decode cX8_join 31 = .ok (.aload 4, 2) := by decide +kernel
theorem dX8_join_33 : decode cX8_join 33 = .ok (.getfield 100, 3) := by decide +kernel
theorem dX8_join_36 : decode cX8_join 36 = .ok (.getfield 42, 3) := by decide +kernel
theorem dX8_join_39 : decode cX8_join 39 = .ok (.iadd, 1) := by decide +kernel
theorem dX8_join_40 : decode cX8_join 40 = .ok (.bipush 40, 2) := by decide +kernel
theorem dX8_join_42 : decode cX8_join 42 = .ok (.if_icmp .le 6, 3) := by decide +kernel
theorem dX8_join_45 : decode cX8_join 45 = .ok (.bipush (-3), 2) := by decide +kernel
theorem dX8_join_47 : decode cX8_join 47 = .ok (.ireturn, 1) := by decide +kernel
theorem dX8_join_48 : decode cX8_join 48 = .ok (.aload_n 0, 1) := by decide +kernel
theorem dX8_join_49 : decode cX8_join 49 = .ok (.getfield 33, 3) := by decide +kernel
theorem dX8_join_52 : decode cX8_join 52 = .ok (.invokevirtual 79, 3) := by decide +kernel
theorem dX8_join_55 : decode cX8_join 55 = .ok (.aload_n 0, 1) := by decide +kernel
theorem dX8_join_56 : decode cX8_join 56 = .ok (.getfield 33, 3) := by decide +kernel
theorem dX8_join_59 : decode cX8_join 59 = .ok (.aload_n 3, 1) := by decide +kernel
theorem dX8_join_60 : decode cX8_join 60 = .ok (.getfield 100, 3) := by decide +kernel
theorem dX8_join_63 : decode cX8_join 63 = .ok (.invokevirtual 82, 3) := by decide +kernel
theorem dX8_join_66 : decode cX8_join 66 = .ok (.aload_n 0, 1) := by decide +kernel
theorem dX8_join_67 : decode cX8_join 67 = .ok (.getfield 33, 3) := by decide +kernel
theorem dX8_join_70 : decode cX8_join 70 = .ok (.aload 4, 2) := by decide +kernel
theorem dX8_join_72 : decode cX8_join 72 = .ok (.getfield 100, 3) := by decide +kernel
theorem dX8_join_75 : decode cX8_join 75 = .ok (.invokevirtual 82, 3) := by decide +kernel
theorem dX8_join_78 : decode cX8_join 78 = .ok (.aload_n 0, 1) := by decide +kernel
theorem dX8_join_79 : decode cX8_join 79 = .ok (.invokevirtual 86, 3) := by decide +kernel
theorem dX8_join_82 : decode cX8_join 82 = .ok (.ireturn, 1) := by decide +kernel
set_option maxRecDepth 20000 in
theorem ggX8_slice_X8_find : GoodIn wsX8_slice wsX8_find := goodIn_r _ [8, 9, 10, 297, 298, 299, 300, 301] (by decide +kernel) (by decide +kernel)
set_option maxRecDepth 20000 in
theorem gX8_slice_X8_find : GoodIn wsX8_slice (wsV RX8 90 RX8 yX8_find wsX8_find) := goodIn_app (goodIn_of _ (by decide +kernel)) ggX8_slice_X8_find
set_option maxRecDepth 20000 in
theorem ggX8_slice_X8_isWay : GoodIn wsX8_slice wsX8_isWay := goodIn_r _ [13] (by decide +kernel) (by decide +kernel)
set_option maxRecDepth 20000 in
theorem gX8_slice_X8_isWay : GoodIn wsX8_slice (va_wsS RX8 113 yX8_isWay wsX8_isWay) := goodIn_app (goodIn_of _ (by decide +kernel)) ggX8_slice_X8_isWay
set_option maxRecDepth 20000 in
theorem ggX8_slice_X3_begin : GoodIn wsX8_slice wsX3_begin := goodIn_r _ [18, 19, 20, 302, 303, 304, 305, 306, 307, 308, 309, 310, 311, 312, 313] (by decide +kernel) (by decide +kernel)
set_option maxRecDepth 20000 in
theorem gX8_slice_X3_begin : GoodIn wsX8_slice (wsV RX8 79 RX3 yX3_begin wsX3_begin) := goodIn_app (goodIn_of _ (by decide +kernel)) ggX8_slice_X3_begin
set_option maxRecDepth 20000 in
theorem ggX8_slice_X0_swelling : GoodIn wsX8_slice wsX0_swelling := goodIn_r _ [25, 26, 27, 28, 29, 30, 31, 32, 33, 34, 35, 36, 37, 38, 39, 40, 41, 42, 43, 44, 45, 46, 47, 48, 49, 50, 51, 52, 53, 54, 55, 56, 57, 58, 59, 60, 61, 62, 63, 64, 65, 66, 67, 68, 69, 70, 71, 72, 73, 74, 75, 76, 77, 78, 79, 80, 81, 82, 83, 84, 85, 86, 314, 315, 316, 317, 318, 319, 320, 321, 322, 323, 324, 325, 326, 327, 328, 329, 330, 331, 332, 333, 334, 335, 336, 337, 338, 339] (by decide +kernel) (by decide +kernel)
set_option maxRecDepth 20000 in
theorem gX8_slice_X0_swelling : GoodIn wsX8_slice (wsV RX8 160 RX0 yX0_swelling wsX0_swelling) := goodIn_app (goodIn_of _ (by decide +kernel)) ggX8_slice_X0_swelling
set_option maxRecDepth 20000 in
theorem ggX8_slice_X7_gather : GoodIn wsX8_slice wsX7_gather := goodIn_r _ [90, 50, 51, 52, 53, 67, 68, 63, 64, 65, 36, 66, 54, 55, 48, 69, 70, 49, 71, 72, 73, 47, 74, 75, 76, 77, 78, 31, 28, 32, 56, 27, 29, 79, 80, 81, 82, 91, 92, 93, 94, 95, 96, 97, 98, 99, 323, 324, 325, 326, 327, 328, 329, 330, 331, 332, 333, 334, 335, 336, 337, 338, 339, 310, 311, 312, 313] (by decide +kernel) (by decide +kernel)
set_option maxRecDepth 20000 in
theorem gX8_slice_X7_gather : GoodIn wsX8_slice (wsV RX8 192 RX7 yX7_gather wsX7_gather) := goodIn_app (goodIn_of _ (by decide +kernel)) ggX8_slice_X7_gather
set_option maxRecDepth 20000 in
theorem ggX8_slice_X8_keepMade : GoodIn wsX8_slice wsX8_keepMade := goodIn_r _ [103, 9, 10, 1, 104, 105, 106, 17, 107, 19, 20, 108, 109, 110, 111, 112, 24, 113, 114, 115, 116, 94, 117, 96, 118, 119, 120, 121, 97, 98, 99, 122, 123, 124, 125, 126, 127, 128, 129, 130, 131, 132, 133, 134, 135, 136, 137, 138, 139, 140, 141, 142, 143, 144, 145, 146, 147, 148, 149, 150, 151, 152, 153, 154, 155, 156, 157, 158, 159, 160, 161, 162, 163, 164, 165, 166, 167, 168, 169, 170, 171, 172, 173, 174, 175, 176, 177, 178, 179, 180, 181, 182, 183, 184, 185, 186, 187, 188, 189, 190, 191, 192, 193, 194, 195, 196, 197, 198, 199, 200, 201, 28, 202, 203, 204, 205, 206, 207, 208, 209, 210, 211, 212, 213, 214, 215, 216, 217, 218, 219, 220, 221, 222, 223, 224, 225, 226, 227, 228, 229, 230, 231, 232, 233, 234, 235, 236, 237, 238, 239, 240, 241, 242, 243, 244, 245, 246, 247, 248, 249, 250, 251, 252, 253, 254, 255, 256, 257, 258, 259, 260, 261, 262, 263, 264, 265, 266, 267, 268, 269, 270, 271, 45, 46, 272, 27, 29, 57, 273, 274, 275, 276, 277, 278, 279, 280, 281, 282, 283, 284, 285, 286, 287, 288, 39, 40, 34, 33, 289, 290, 291, 37, 38, 292, 30, 31, 32, 26, 293, 294, 295, 296, 297, 298, 299, 300, 301, 302, 303, 304, 305, 306, 307, 308, 309, 310, 311, 312, 313, 335, 336, 337, 338, 339, 314, 315, 316, 317, 318, 319, 320, 321, 322, 340, 341, 342] (by decide +kernel) (by decide +kernel)
set_option maxRecDepth 20000 in
theorem gX8_slice_X8_keepMade : GoodIn wsX8_slice (wsV RX8 86 RX8 yX8_keepMade wsX8_keepMade) := goodIn_app (goodIn_of _ (by decide +kernel)) ggX8_slice_X8_keepMade
theorem dX8_slice_0 : decode cX8_slice 0 = .ok (.aload_n 0, 1) := by decide +kernel
theorem dX8_slice_1 : decode cX8_slice 1 = .ok (.iload_n 1, 1) := by decide +kernel
theorem dX8_slice_2 : decode cX8_slice 2 = .ok (.invokevirtual 90, 3) := by decide +kernel
theorem dX8_slice_5 : decode cX8_slice 5 = .ok (.astore 4, 2) := by decide +kernel
theorem dX8_slice_7 : decode cX8_slice 7 = .ok (.aload 4, 2) := by decide +kernel
theorem dX8_slice_9 : decode cX8_slice 9 = .ok (.ifnull 10, 3) := by decide +kernel
theorem dX8_slice_12 : decode cX8_slice 12 = .ok (.iload_n 2, 1) := by decide +kernel
theorem dX8_slice_13 : decode cX8_slice 13 = .ok (.invokestatic 113, 3) := by decide +kernel
theorem dX8_slice_16 : decode cX8_slice 16 = .ok (.ifCond .ne 5, 3) := by decide +kernel
theorem dX8_slice_19 : decode cX8_slice 19 = .ok (.iconst (-1), 1) := by decide +kernel
theorem dX8_slice_20 : decode cX8_slice 20 = .ok (.ireturn, 1) := by decide +kernel
theorem dX8_slice_21 : decode cX8_slice 21 = .ok (.aload_n 0, 1) := by decide +kernel
theorem dX8_slice_22 : decode cX8_slice 22 = .ok (.getfield 33, 3) := by decide +kernel
theorem dX8_slice_25 : decode cX8_slice 25 = .ok (.invokevirtual 79, 3) := by decide +kernel
theorem dX8_slice_28 : decode cX8_slice 28 = .ok (.aload 4, 2) := by decide +kernel
theorem dX8_slice_30 : decode cX8_slice 30 = .ok (.iconst 1, 1) := by decide +kernel
theorem dX8_slice_31 : decode cX8_slice 31 = .ok (.invokevirtual 160, 3) := by decide +kernel
theorem dX8_slice_34 : decode cX8_slice 34 = .ok (.aload_n 0, 1) := by decide +kernel
theorem dX8_slice_35 : decode cX8_slice 35 = .ok (.getfield 33, 3) := by decide +kernel
theorem dX8_slice_38 : decode cX8_slice 38 = .ok (.getfield 189, 3) := by decide +kernel
theorem dX8_slice_41 : decode cX8_slice 41 = .ok (.iload_n 2, 1) := by decide +kernel
theorem dX8_slice_42 : decode cX8_slice 42 = .ok (.iload_n 3, 1) := by decide +kernel
theorem dX8_slice_43 : decode cX8_slice 43 = .ok (.invokevirtual 192, 3) := by decide +kernel
theorem dX8_slice_46 : decode cX8_slice 46 = .ok (.aload_n 0, 1) := by decide +kernel
theorem dX8_slice_47 : decode cX8_slice 47 = .ok (.getfield 33, 3) := by decide +kernel
theorem dX8_slice_50 : decode cX8_slice 50 = .ok (.getfield 189, 3) := by decide +kernel
theorem dX8_slice_53 : decode cX8_slice 53 = .ok (.getfield 42, 3) := by decide +kernel
theorem dX8_slice_56 : decode cX8_slice 56 = .ok (.ifCond .ne 6, 3) := by decide +kernel
theorem dX8_slice_59 : decode cX8_slice 59 = .ok (.bipush (-4), 2) := by decide +kernel
theorem dX8_slice_61 : decode cX8_slice 61 = .ok (.ireturn, 1) := by decide +kernel
theorem dX8_slice_62 : decode cX8_slice 62 = .ok (.aload_n 0, 1) := by decide +kernel
theorem dX8_slice_63 : decode cX8_slice 63 = .ok (.invokevirtual 86, 3) := by decide +kernel
theorem dX8_slice_66 : decode cX8_slice 66 = .ok (.ireturn, 1) := by decide +kernel
set_option maxRecDepth 20000 in
theorem ggX8_within_X8_find : GoodIn wsX8_within wsX8_find := goodIn_r _ [6, 7, 8, 43, 44, 45, 46, 47] (by decide +kernel) (by decide +kernel)
set_option maxRecDepth 20000 in
theorem gX8_within_X8_find : GoodIn wsX8_within (wsV RX8 90 RX8 yX8_find wsX8_find) := goodIn_app (goodIn_of _ (by decide +kernel)) ggX8_within_X8_find
set_option maxRecDepth 20000 in
theorem ggX8_within_X0_holds : GoodIn wsX8_within wsX0_holds := goodIn_r _ [13, 14, 15, 16, 17, 18, 19, 20, 12, 21, 22, 23, 24, 25, 26, 27, 28, 29, 30, 31, 32, 33, 48, 49, 50, 51, 34, 35, 36, 37, 38, 39, 40, 41, 42, 52, 53, 54, 55, 56] (by decide +kernel) (by decide +kernel)
set_option maxRecDepth 20000 in
theorem gX8_within_X0_holds : GoodIn wsX8_within (wsV RX8 196 RX0 yX0_holds wsX0_holds) := goodIn_app (goodIn_of _ (by decide +kernel)) ggX8_within_X0_holds
theorem dX8_within_0 : decode cX8_within 0 = .ok (.aload_n 0, 1) := by decide +kernel
theorem dX8_within_1 : decode cX8_within 1 = .ok (.iload_n 1, 1) := by decide +kernel
theorem dX8_within_2 : decode cX8_within 2 = .ok (.invokevirtual 90, 3) := by decide +kernel
theorem dX8_within_5 : decode cX8_within 5 = .ok (.astore_n 3, 1) := by decide +kernel
theorem dX8_within_6 : decode cX8_within 6 = .ok (.aload_n 0, 1) := by decide +kernel
theorem dX8_within_7 : decode cX8_within 7 = .ok (.iload_n 2, 1) := by decide +kernel
theorem dX8_within_8 : decode cX8_within 8 = .ok (.invokevirtual 90, 3) := by decide +kernel
theorem dX8_within_11 : decode cX8_within 11 = .ok (.astore 4, 2) := by decide +kernel
theorem dX8_within_13 : decode cX8_within 13 = .ok (.aload_n 3, 1) := by decide +kernel
theorem dX8_within_14 : decode cX8_within 14 = .ok (.ifnull 8, 3) := by decide +kernel
theorem dX8_within_17 : decode cX8_within 17 = .ok (.aload 4, 2) := by decide +kernel
theorem dX8_within_19 : decode cX8_within 19 = .ok (.ifnonnull 5, 3) := by decide +kernel
theorem dX8_within_22 : decode cX8_within 22 = .ok (.iconst (-1), 1) := by decide +kernel
theorem dX8_within_23 : decode cX8_within 23 = .ok (.ireturn, 1) := by decide +kernel
theorem dX8_within_24 : decode cX8_within 24 = .ok (.aload 4, 2) := by decide +kernel
theorem dX8_within_26 : decode cX8_within 26 = .ok (.aload_n 3, 1) := by decide +kernel
theorem dX8_within_27 : decode cX8_within 27 = .ok (.getfield 100, 3) := by decide +kernel
theorem dX8_within_30 : decode cX8_within 30 = .ok (.invokevirtual 196, 3) := by decide +kernel
theorem dX8_within_33 : decode cX8_within 33 = .ok (.ifCond .eq 7, 3) := by decide +kernel
theorem dX8_within_36 : decode cX8_within 36 = .ok (.iconst 1, 1) := by decide +kernel
theorem dX8_within_37 : decode cX8_within 37 = .ok (.goto 4, 3) := by decide +kernel
theorem dX8_within_40 : decode cX8_within 40 = .ok (.iconst 0, 1) := by decide +kernel
theorem dX8_within_41 : decode cX8_within 41 = .ok (.ireturn, 1) := by decide +kernel
set_option maxRecDepth 20000 in
theorem ggX8_same_X8_find : GoodIn wsX8_same wsX8_find := goodIn_r _ [6, 7, 8, 31, 32, 33, 34, 35] (by decide +kernel) (by decide +kernel)
set_option maxRecDepth 20000 in
theorem gX8_same_X8_find : GoodIn wsX8_same (wsV RX8 90 RX8 yX8_find wsX8_find) := goodIn_app (goodIn_of _ (by decide +kernel)) ggX8_same_X8_find
set_option maxRecDepth 20000 in
theorem ggX8_same_X4_isMoved : GoodIn wsX8_same wsX4_isMoved := goodIn_r _ [13, 14, 15, 16, 17, 36, 37, 38, 39] (by decide +kernel) (by decide +kernel)
set_option maxRecDepth 20000 in
theorem gX8_same_X4_isMoved : GoodIn wsX8_same (wsV RX8 200 RX4 yX4_isMoved wsX4_isMoved) := goodIn_app (goodIn_of _ (by decide +kernel)) ggX8_same_X4_isMoved
set_option maxRecDepth 20000 in
theorem ggX8_same_X4_compare : GoodIn wsX8_same wsX4_compare := goodIn_r _ [21, 15, 16, 17, 36, 37, 38, 39] (by decide +kernel) (by decide +kernel)
set_option maxRecDepth 20000 in
theorem gX8_same_X4_compare : GoodIn wsX8_same (wsV RX8 203 RX4 yX4_compare wsX4_compare) := goodIn_app (goodIn_of _ (by decide +kernel)) ggX8_same_X4_compare
theorem dX8_same_0 : decode cX8_same 0 = .ok (.aload_n 0, 1) := by decide +kernel
theorem dX8_same_1 : decode cX8_same 1 = .ok (.iload_n 1, 1) := by decide +kernel
theorem dX8_same_2 : decode cX8_same 2 = .ok (.invokevirtual 90, 3) := by decide +kernel
theorem dX8_same_5 : decode cX8_same 5 = .ok (.astore_n 3, 1) := by decide +kernel
theorem dX8_same_6 : decode cX8_same 6 = .ok (.aload_n 0, 1) := by decide +kernel
theorem dX8_same_7 : decode cX8_same 7 = .ok (.iload_n 2, 1) := by decide +kernel
theorem dX8_same_8 : decode cX8_same 8 = .ok (.invokevirtual 90, 3) := by decide +kernel
theorem dX8_same_11 : decode cX8_same 11 = .ok (.astore 4, 2) := by decide +kernel
theorem dX8_same_13 : decode cX8_same 13 = .ok (.aload_n 3, 1) := by decide +kernel
theorem dX8_same_14 : decode cX8_same 14 = .ok (.ifnull 8, 3) := by decide +kernel
theorem dX8_same_17 : decode cX8_same 17 = .ok (.aload 4, 2) := by decide +kernel
theorem dX8_same_19 : decode cX8_same 19 = .ok (.ifnonnull 5, 3) := by decide +kernel
theorem dX8_same_22 : decode cX8_same 22 = .ok (.iconst (-1), 1) := by decide +kernel
theorem dX8_same_23 : decode cX8_same 23 = .ok (.ireturn, 1) := by decide +kernel
theorem dX8_same_24 : decode cX8_same 24 = .ok (.aload_n 3, 1) := by decide +kernel
theorem dX8_same_25 : decode cX8_same 25 = .ok (.getfield 100, 3) := by decide +kernel
theorem dX8_same_28 : decode cX8_same 28 = .ok (.aload 4, 2) := by decide +kernel
theorem dX8_same_30 : decode cX8_same 30 = .ok (.getfield 100, 3) := by decide +kernel
theorem dX8_same_33 : decode cX8_same 33 = .ok (.invokevirtual 200, 3) := by decide +kernel
theorem dX8_same_36 : decode cX8_same 36 = .ok (.ifCond .ne 5, 3) := by decide +kernel
theorem dX8_same_39 : decode cX8_same 39 = .ok (.iconst 0, 1) := by decide +kernel
theorem dX8_same_40 : decode cX8_same 40 = .ok (.ireturn, 1) := by decide +kernel
theorem dX8_same_41 : decode cX8_same 41 = .ok (.aload_n 3, 1) := by decide +kernel
theorem dX8_same_42 : decode cX8_same 42 = .ok (.getfield 100, 3) := by decide +kernel
theorem dX8_same_45 : decode cX8_same 45 = .ok (.iconst 0, 1) := by decide +kernel
theorem dX8_same_46 : decode cX8_same 46 = .ok (.aload 4, 2) := by decide +kernel
theorem dX8_same_48 : decode cX8_same 48 = .ok (.getfield 100, 3) := by decide +kernel
theorem dX8_same_51 : decode cX8_same 51 = .ok (.iconst 0, 1) := by decide +kernel
theorem dX8_same_52 : decode cX8_same 52 = .ok (.invokevirtual 203, 3) := by decide +kernel
theorem dX8_same_55 : decode cX8_same 55 = .ok (.ifCond .ne 7, 3) := by decide +kernel
theorem dX8_same_58 : decode cX8_same 58 = .ok (.iconst 2, 1) := by decide +kernel
theorem dX8_same_59 : decode cX8_same 59 = .ok (.goto 4, 3) := by decide +kernel
theorem dX8_same_62 : decode cX8_same 62 = .ok (.iconst 1, 1) := by decide +kernel
theorem dX8_same_63 : decode cX8_same 63 = .ok (.ireturn, 1) := by decide +kernel
set_option maxRecDepth 20000 in
theorem ggX8_most_X8_find : GoodIn wsX8_most wsX8_find := goodIn_r _ [6, 7, 8, 26, 27, 28, 29, 30] (by decide +kernel) (by decide +kernel)
set_option maxRecDepth 20000 in
theorem gX8_most_X8_find : GoodIn wsX8_most (wsV RX8 90 RX8 yX8_find wsX8_find) := goodIn_app (goodIn_of _ (by decide +kernel)) ggX8_most_X8_find
set_option maxRecDepth 20000 in
theorem ggX8_most_X8_isAmong : GoodIn wsX8_most wsX8_isAmong := goodIn_r _ [11] (by decide +kernel) (by decide +kernel)
set_option maxRecDepth 20000 in
theorem gX8_most_X8_isAmong : GoodIn wsX8_most (va_wsS RX8 129 yX8_isAmong wsX8_isAmong) := goodIn_app (goodIn_of _ (by decide +kernel)) ggX8_most_X8_isAmong
set_option maxRecDepth 20000 in
theorem ggX8_most_X0_greatestOf : GoodIn wsX8_most wsX0_greatestOf := goodIn_r _ [16, 17, 18, 19, 20, 21, 22, 23, 24, 25, 31, 32, 33, 34, 35, 36, 37, 38, 39, 40, 41, 42, 43] (by decide +kernel) (by decide +kernel)
set_option maxRecDepth 20000 in
theorem gX8_most_X0_greatestOf : GoodIn wsX8_most (wsV RX8 207 RX0 yX0_greatestOf wsX0_greatestOf) := goodIn_app (goodIn_of _ (by decide +kernel)) ggX8_most_X0_greatestOf
theorem dX8_most_0 : decode cX8_most 0 = .ok (.aload_n 0, 1) := by decide +kernel
theorem dX8_most_1 : decode cX8_most 1 = .ok (.iload_n 1, 1) := by decide +kernel
theorem dX8_most_2 : decode cX8_most 2 = .ok (.invokevirtual 90, 3) := by decide +kernel
theorem dX8_most_5 : decode cX8_most 5 = .ok (.astore 6, 2) := by decide +kernel
theorem dX8_most_7 : decode cX8_most 7 = .ok (.aload 6, 2) := by decide +kernel
theorem dX8_most_9 : decode cX8_most 9 = .ok (.ifnonnull 6, 3) := by decide +kernel
theorem dX8_most_12 : decode cX8_most 12 = .ok (.ldc 150, 2) := by decide +kernel
theorem dX8_most_14 : decode cX8_most 14 = .ok (.ireturn, 1) := by decide +kernel
theorem dX8_most_15 : decode cX8_most 15 = .ok (.iload_n 2, 1) := by decide +kernel
theorem dX8_most_16 : decode cX8_most 16 = .ok (.i2l, 1) := by decide +kernel
theorem dX8_most_17 : decode cX8_most 17 = .ok (.bipush 100, 2) := by decide +kernel
theorem dX8_most_19 : decode cX8_most 19 = .ok (.invokestatic 129, 3) := by decide +kernel
theorem dX8_most_22 : decode cX8_most 22 = .ok (.ifCond .eq 24, 3) := by decide +kernel
theorem dX8_most_25 : decode cX8_most 25 = .ok (.iload_n 3, 1) := by decide +kernel
theorem dX8_most_26 : decode cX8_most 26 = .ok (.i2l, 1) := by decide +kernel
theorem dX8_most_27 : decode cX8_most 27 = .ok (.bipush 100, 2) := by decide +kernel
theorem dX8_most_29 : decode cX8_most 29 = .ok (.invokestatic 129, 3) := by decide +kernel
theorem dX8_most_32 : decode cX8_most 32 = .ok (.ifCond .eq 14, 3) := by decide +kernel
theorem dX8_most_35 : decode cX8_most 35 = .ok (.iload 4, 2) := by decide +kernel
theorem dX8_most_37 : decode cX8_most 37 = .ok (.i2l, 1) := by decide +kernel
theorem dX8_most_38 : decode cX8_most 38 = .ok (.bipush 100, 2) := by decide +kernel
theorem dX8_most_40 : decode cX8_most 40 = .ok (.invokestatic 129, 3) := by decide +kernel
theorem dX8_most_43 : decode cX8_most 43 = .ok (.ifCond .ne 6, 3) := by decide +kernel
theorem dX8_most_46 : decode cX8_most 46 = .ok (.ldc 150, 2) := by decide +kernel
theorem dX8_most_48 : decode cX8_most 48 = .ok (.ireturn, 1) := by decide +kernel
theorem dX8_most_49 : decode cX8_most 49 = .ok (.iload 5, 2) := by decide +kernel
theorem dX8_most_51 : decode cX8_most 51 = .ok (.ifCond .eq 15, 3) := by decide +kernel
theorem dX8_most_54 : decode cX8_most 54 = .ok (.aload 6, 2) := by decide +kernel
theorem dX8_most_56 : decode cX8_most 56 = .ok (.iload_n 2, 1) := by decide +kernel
theorem dX8_most_57 : decode cX8_most 57 = .ok (.iload_n 3, 1) := by decide +kernel
theorem dX8_most_58 : decode cX8_most 58 = .ok (.iload 4, 2) := by decide +kernel
theorem dX8_most_60 : decode cX8_most 60 = .ok (.invokevirtual 207, 3) := by decide +kernel
theorem dX8_most_63 : decode cX8_most 63 = .ok (.goto 16, 3) := by decide +kernel
theorem dX8_most_66 : decode cX8_most 66 = .ok (.aload 6, 2) := by decide +kernel
theorem dX8_most_68 : decode cX8_most 68 = .ok (.iload_n 2, 1) := by decide +kernel
theorem dX8_most_69 : decode cX8_most 69 = .ok (.ineg, 1) := by decide +kernel
theorem dX8_most_70 : decode cX8_most 70 = .ok (.iload_n 3, 1) := by decide +kernel
theorem dX8_most_71 : decode cX8_most 71 = .ok (.ineg, 1) := by decide +kernel
theorem dX8_most_72 : decode cX8_most 72 = .ok (.iload 4, 2) := by decide +kernel
theorem dX8_most_74 : decode cX8_most 74 = .ok (.ineg, 1) := by decide +kernel
theorem dX8_most_75 : decode cX8_most 75 = .ok (.invokevirtual 207, 3) := by decide +kernel
theorem dX8_most_78 : decode cX8_most 78 = .ok (.ineg, 1) := by decide +kernel
theorem dX8_most_79 : decode cX8_most 79 = .ok (.ireturn, 1) := by decide +kernel
theorem dX8_all_0 : decode cX8_all 0 = .ok (.iload_n 1, 1) := by decide +kernel
theorem dX8_all_1 : decode cX8_all 1 = .ok (.tableswitch 68 0 2 #[27, 32, 40], 27) := by decide +kernel
theorem dX8_all_28 : decode cX8_all 28 = .ok (.aload_n 0, 1) := by decide +kernel
theorem dX8_all_29 : decode cX8_all 29 = .ok (.getfield 76, 3) := by decide +kernel
theorem dX8_all_32 : decode cX8_all 32 = .ok (.ireturn, 1) := by decide +kernel
theorem dX8_all_33 : decode cX8_all 33 = .ok (.aload_n 0, 1) := by decide +kernel
theorem dX8_all_34 : decode cX8_all 34 = .ok (.getfield 14, 3) := by decide +kernel
theorem dX8_all_37 : decode cX8_all 37 = .ok (.getfield 42, 3) := by decide +kernel
theorem dX8_all_40 : decode cX8_all 40 = .ok (.ireturn, 1) := by decide +kernel
theorem dX8_all_41 : decode cX8_all 41 = .ok (.aload_n 0, 1) := by decide +kernel
theorem dX8_all_42 : decode cX8_all 42 = .ok (.getfield 20, 3) := by decide +kernel
theorem dX8_all_45 : decode cX8_all 45 = .ok (.iconst 0, 1) := by decide +kernel
theorem dX8_all_46 : decode cX8_all 46 = .ok (.aaload, 1) := by decide +kernel
theorem dX8_all_47 : decode cX8_all 47 = .ok (.getfield 61, 3) := by decide +kernel
theorem dX8_all_50 : decode cX8_all 50 = .ok (.iconst (-1), 1) := by decide +kernel
theorem dX8_all_51 : decode cX8_all 51 = .ok (.if_icmp .ne 8, 3) := by decide +kernel
theorem dX8_all_54 : decode cX8_all 54 = .ok (.bipush (-4), 2) := by decide +kernel
theorem dX8_all_56 : decode cX8_all 56 = .ok (.goto 12, 3) := by decide +kernel
theorem dX8_all_59 : decode cX8_all 59 = .ok (.aload_n 0, 1) := by decide +kernel
theorem dX8_all_60 : decode cX8_all 60 = .ok (.getfield 20, 3) := by decide +kernel
theorem dX8_all_63 : decode cX8_all 63 = .ok (.iconst 0, 1) := by decide +kernel
theorem dX8_all_64 : decode cX8_all 64 = .ok (.aaload, 1) := by decide +kernel
theorem dX8_all_65 : decode cX8_all 65 = .ok (.getfield 64, 3) := by decide +kernel
theorem dX8_all_68 : decode cX8_all 68 = .ok (.ireturn, 1) := by decide +kernel
theorem dX8_all_69 : decode cX8_all 69 = .ok (.iconst (-1), 1) := by decide +kernel
theorem dX8_all_70 : decode cX8_all 70 = .ok (.ireturn, 1) := by decide +kernel
theorem dX8_find_0 : decode cX8_find 0 = .ok (.iload_n 1, 1) := by decide +kernel
theorem dX8_find_1 : decode cX8_find 1 = .ok (.ifCond .lt 20, 3) := by decide +kernel
theorem dX8_find_4 : decode cX8_find 4 = .ok (.iload_n 1, 1) := by decide +kernel
theorem dX8_find_5 : decode cX8_find 5 = .ok (.aload_n 0, 1) := by decide +kernel
theorem dX8_find_6 : decode cX8_find 6 = .ok (.getfield 76, 3) := by decide +kernel
theorem dX8_find_9 : decode cX8_find 9 = .ok (.if_icmp .ge 12, 3) := by decide +kernel
theorem dX8_find_12 : decode cX8_find 12 = .ok (.aload_n 0, 1) := by decide +kernel
theorem dX8_find_13 : decode cX8_find 13 = .ok (.getfield 26, 3) := by decide +kernel
theorem dX8_find_16 : decode cX8_find 16 = .ok (.iload_n 1, 1) := by decide +kernel
theorem dX8_find_17 : decode cX8_find 17 = .ok (.aaload, 1) := by decide +kernel
theorem dX8_find_18 : decode cX8_find 18 = .ok (.goto 4, 3) := by decide +kernel
theorem dX8_find_21 : decode cX8_find 21 = .ok (.aconst_null, 1) := by decide +kernel
theorem dX8_find_22 : decode cX8_find 22 = .ok (.areturn, 1) := by decide +kernel
set_option maxRecDepth 20000 in
theorem ggX8_keepMade_X3_make : GoodIn wsX8_keepMade wsX3_make := goodIn_r _ [8, 9, 10, 11, 12, 13, 14, 15, 16, 17, 18, 19, 20, 21, 22, 23, 24, 25, 26, 27, 28, 29, 30, 31, 32, 33, 34, 35, 36, 37, 38, 39, 40, 41, 42, 43, 44, 45, 46, 47, 48, 49, 7, 50, 51, 52, 53, 54, 55, 56, 57, 58, 59, 60, 61, 62, 63, 64, 65, 66, 67, 68, 69, 70, 71, 72, 73, 74, 75, 76, 77, 78, 79, 80, 81, 82, 83, 84, 85, 86, 87, 88, 89, 90, 91, 92, 93, 94, 95, 96, 97, 98, 99, 100, 101, 102, 103, 104, 105, 106, 107, 108, 109, 110, 111, 112, 113, 114, 115, 116, 117, 118, 119, 120, 121, 122, 123, 124, 125, 126, 127, 128, 129, 130, 131, 132, 133, 134, 135, 136, 137, 138, 139, 140, 141, 142, 143, 144, 145, 146, 147, 148, 149, 150, 151, 152, 153, 154, 155, 156, 157, 158, 159, 160, 161, 162, 163, 164, 165, 166, 167, 168, 169, 170, 171, 172, 173, 174, 175, 176, 177, 178, 179, 180, 181, 182, 183, 184, 185, 186, 187, 188, 189, 190, 191, 192, 193, 194, 195, 196, 197, 198, 199, 200, 201, 202, 203, 204, 205, 206, 207, 208, 209, 210, 211, 212, 213, 214, 215, 216, 217, 218, 219, 220, 221, 227, 228, 229, 230, 231, 232, 233, 234, 235, 236, 237, 238, 239, 240, 241, 242, 243, 244, 245, 246, 247, 248, 249, 250, 251, 252, 253, 254, 255] (by decide +kernel) (by decide +kernel)
set_option maxRecDepth 20000 in
theorem gX8_keepMade_X3_make : GoodIn wsX8_keepMade (wsV RX8 210 RX3 yX3_make wsX3_make) := goodIn_app (goodIn_of _ (by decide +kernel)) ggX8_keepMade_X3_make
theorem dX8_keepMade_0 : decode cX8_keepMade 0 = .ok (.aload_n 0, 1) := by decide +kernel
theorem dX8_keepMade_1 : decode cX8_keepMade 1 = .ok (.getfield 76, 3) := by decide +kernel
theorem dX8_keepMade_4 : decode cX8_keepMade 4 = .ok (.bipush 8, 2) := by decide +kernel
theorem dX8_keepMade_6 : decode cX8_keepMade 6 = .ok (.if_icmp .lt 6, 3) := by decide +kernel
theorem dX8_keepMade_9 : decode cX8_keepMade 9 = .ok (.bipush (-3), 2) := by decide +kernel
theorem dX8_keepMade_11 : decode cX8_keepMade 11 = .ok (.ireturn, 1) := by decide +kernel
theorem dX8_keepMade_12 : decode cX8_keepMade 12 = .ok (.aload_n 0, 1) := by decide +kernel
theorem dX8_keepMade_13 : decode cX8_keepMade 13 = .ok (.getfield 26, 3) := by decide +kernel
theorem dX8_keepMade_16 : decode cX8_keepMade 16 = .ok (.aload_n 0, 1) := by decide +kernel
theorem dX8_keepMade_17 : decode cX8_keepMade 17 = .ok (.getfield 76, 3) := by decide +kernel
theorem dX8_keepMade_20 : decode cX8_keepMade 20 = .ok (.aload_n 0, 1) := by decide +kernel
theorem dX8_keepMade_21 : decode cX8_keepMade 21 = .ok (.getfield 33, 3) := by decide +kernel
theorem dX8_keepMade_24 : decode cX8_keepMade 24 = .ok (.invokevirtual 210, 3) := by decide +kernel
theorem dX8_keepMade_27 : decode cX8_keepMade 27 = .ok (.aastore, 1) := by decide +kernel
theorem dX8_keepMade_28 : decode cX8_keepMade 28 = .ok (.aload_n 0, 1) := by decide +kernel
theorem dX8_keepMade_29 : decode cX8_keepMade 29 = .ok (.dup, 1) := by decide +kernel
theorem dX8_keepMade_30 : decode cX8_keepMade 30 = .ok (.getfield 76, 3) := by decide +kernel
theorem dX8_keepMade_33 : decode cX8_keepMade 33 = .ok (.iconst 1, 1) := by decide +kernel
theorem dX8_keepMade_34 : decode cX8_keepMade 34 = .ok (.iadd, 1) := by decide +kernel
theorem dX8_keepMade_35 : decode cX8_keepMade 35 = .ok (.putfield 76, 3) := by decide +kernel
theorem dX8_keepMade_38 : decode cX8_keepMade 38 = .ok (.aload_n 0, 1) := by decide +kernel
theorem dX8_keepMade_39 : decode cX8_keepMade 39 = .ok (.getfield 76, 3) := by decide +kernel
theorem dX8_keepMade_42 : decode cX8_keepMade 42 = .ok (.iconst 1, 1) := by decide +kernel
theorem dX8_keepMade_43 : decode cX8_keepMade 43 = .ok (.isub, 1) := by decide +kernel
theorem dX8_keepMade_44 : decode cX8_keepMade 44 = .ok (.ireturn, 1) := by decide +kernel
set_option maxRecDepth 20000 in
theorem ggX8_takeInReach_X8_inReach : GoodIn wsX8_takeInReach wsX8_inReach := goodIn_r _ [6, 7, 8, 5, 9] (by decide +kernel) (by decide +kernel)
set_option maxRecDepth 20000 in
theorem gX8_takeInReach_X8_inReach : GoodIn wsX8_takeInReach (va_wsS RX8 38 yX8_inReach wsX8_inReach) := goodIn_app (goodIn_of _ (by decide +kernel)) ggX8_takeInReach_X8_inReach
set_option maxRecDepth 20000 in
theorem ggX8_takeInReach_X4_put : GoodIn wsX8_takeInReach wsX4_put := goodIn_r _ [14, 15, 16, 17, 18, 32, 33, 34, 35] (by decide +kernel) (by decide +kernel)
set_option maxRecDepth 20000 in
theorem gX8_takeInReach_X4_put : GoodIn wsX8_takeInReach (wsV RX8 46 RX4 yX4_put wsX4_put) := goodIn_app (goodIn_of _ (by decide +kernel)) ggX8_takeInReach_X4_put
theorem dX8_takeInReach_0 : decode cX8_takeInReach 0 = .ok (.lload_n 1, 1) := by decide +kernel
theorem dX8_takeInReach_1 : decode cX8_takeInReach 1 = .ok (.lload_n 3, 1) := by decide +kernel
theorem dX8_takeInReach_2 : decode cX8_takeInReach 2 = .ok (.lload 5, 2) := by decide +kernel
theorem dX8_takeInReach_4 : decode cX8_takeInReach 4 = .ok (.invokestatic 38, 3) := by decide +kernel
theorem dX8_takeInReach_7 : decode cX8_takeInReach 7 = .ok (.ifCond .ne 5, 3) := by decide +kernel
theorem dX8_takeInReach_10 : decode cX8_takeInReach 10 = .ok (.iconst 0, 1) := by decide +kernel
theorem dX8_takeInReach_11 : decode cX8_takeInReach 11 = .ok (.ireturn, 1) := by decide +kernel
theorem dX8_takeInReach_12 : decode cX8_takeInReach 12 = .ok (.aload_n 0, 1) := by decide +kernel
theorem dX8_takeInReach_13 : decode cX8_takeInReach 13 = .ok (.getfield 33, 3) := by decide +kernel
theorem dX8_takeInReach_16 : decode cX8_takeInReach 16 = .ok (.getfield 189, 3) := by decide +kernel
theorem dX8_takeInReach_19 : decode cX8_takeInReach 19 = .ok (.lload_n 1, 1) := by decide +kernel
theorem dX8_takeInReach_20 : decode cX8_takeInReach 20 = .ok (.l2i, 1) := by decide +kernel
theorem dX8_takeInReach_21 : decode cX8_takeInReach 21 = .ok (.lload_n 3, 1) := by decide +kernel
theorem dX8_takeInReach_22 : decode cX8_takeInReach 22 = .ok (.l2i, 1) := by decide +kernel
theorem dX8_takeInReach_23 : decode cX8_takeInReach 23 = .ok (.lload 5, 2) := by decide +kernel
theorem dX8_takeInReach_25 : decode cX8_takeInReach 25 = .ok (.l2i, 1) := by decide +kernel
theorem dX8_takeInReach_26 : decode cX8_takeInReach 26 = .ok (.invokevirtual 46, 3) := by decide +kernel
theorem dX8_takeInReach_29 : decode cX8_takeInReach 29 = .ok (.iconst 1, 1) := by decide +kernel
theorem dX8_takeInReach_30 : decode cX8_takeInReach 30 = .ok (.ireturn, 1) := by decide +kernel
set_option maxRecDepth 20000 in
theorem ggX8_inReach_X8_isAmong : GoodIn wsX8_inReach wsX8_isAmong := goodIn_r _ [4] (by decide +kernel) (by decide +kernel)
set_option maxRecDepth 20000 in
theorem gX8_inReach_X8_isAmong : GoodIn wsX8_inReach (va_wsS RX8 129 yX8_isAmong wsX8_isAmong) := goodIn_app (goodIn_of _ (by decide +kernel)) ggX8_inReach_X8_isAmong
theorem dX8_inReach_0 : decode cX8_inReach 0 = .ok (.lload_n 0, 1) := by decide +kernel
theorem dX8_inReach_1 : decode cX8_inReach 1 = .ok (.iconst 5, 1) := by decide +kernel
theorem dX8_inReach_2 : decode cX8_inReach 2 = .ok (.invokestatic 129, 3) := by decide +kernel
theorem dX8_inReach_5 : decode cX8_inReach 5 = .ok (.ifCond .eq 24, 3) := by decide +kernel
theorem dX8_inReach_8 : decode cX8_inReach 8 = .ok (.lload_n 2, 1) := by decide +kernel
theorem dX8_inReach_9 : decode cX8_inReach 9 = .ok (.iconst 5, 1) := by decide +kernel
theorem dX8_inReach_10 : decode cX8_inReach 10 = .ok (.invokestatic 129, 3) := by decide +kernel
theorem dX8_inReach_13 : decode cX8_inReach 13 = .ok (.ifCond .eq 16, 3) := by decide +kernel
theorem dX8_inReach_16 : decode cX8_inReach 16 = .ok (.lload 4, 2) := by decide +kernel
theorem dX8_inReach_18 : decode cX8_inReach 18 = .ok (.iconst 5, 1) := by decide +kernel
theorem dX8_inReach_19 : decode cX8_inReach 19 = .ok (.invokestatic 129, 3) := by decide +kernel
theorem dX8_inReach_22 : decode cX8_inReach 22 = .ok (.ifCond .eq 7, 3) := by decide +kernel
theorem dX8_inReach_25 : decode cX8_inReach 25 = .ok (.iconst 1, 1) := by decide +kernel
theorem dX8_inReach_26 : decode cX8_inReach 26 = .ok (.goto 4, 3) := by decide +kernel
theorem dX8_inReach_29 : decode cX8_inReach 29 = .ok (.iconst 0, 1) := by decide +kernel
theorem dX8_inReach_30 : decode cX8_inReach 30 = .ok (.ireturn, 1) := by decide +kernel
theorem dX8_isAmong_0 : decode cX8_isAmong 0 = .ok (.lload_n 0, 1) := by decide +kernel
theorem dX8_isAmong_1 : decode cX8_isAmong 1 = .ok (.iload_n 2, 1) := by decide +kernel
theorem dX8_isAmong_2 : decode cX8_isAmong 2 = .ok (.ineg, 1) := by decide +kernel
theorem dX8_isAmong_3 : decode cX8_isAmong 3 = .ok (.i2l, 1) := by decide +kernel
theorem dX8_isAmong_4 : decode cX8_isAmong 4 = .ok (.lcmp, 1) := by decide +kernel
theorem dX8_isAmong_5 : decode cX8_isAmong 5 = .ok (.ifCond .lt 14, 3) := by decide +kernel
theorem dX8_isAmong_8 : decode cX8_isAmong 8 = .ok (.lload_n 0, 1) := by decide +kernel
theorem dX8_isAmong_9 : decode cX8_isAmong 9 = .ok (.iload_n 2, 1) := by decide +kernel
theorem dX8_isAmong_10 : decode cX8_isAmong 10 = .ok (.i2l, 1) := by decide +kernel
theorem dX8_isAmong_11 : decode cX8_isAmong 11 = .ok (.lcmp, 1) := by decide +kernel
theorem dX8_isAmong_12 : decode cX8_isAmong 12 = .ok (.ifCond .gt 7, 3) := by decide +kernel
theorem dX8_isAmong_15 : decode cX8_isAmong 15 = .ok (.iconst 1, 1) := by decide +kernel
theorem dX8_isAmong_16 : decode cX8_isAmong 16 = .ok (.goto 4, 3) := by decide +kernel
theorem dX8_isAmong_19 : decode cX8_isAmong 19 = .ok (.iconst 0, 1) := by decide +kernel
theorem dX8_isAmong_20 : decode cX8_isAmong 20 = .ok (.ireturn, 1) := by decide +kernel
theorem dX8_isSheaf_0 : decode cX8_isSheaf 0 = .ok (.iload_n 0, 1) := by decide +kernel
theorem dX8_isSheaf_1 : decode cX8_isSheaf 1 = .ok (.ifCond .lt 12, 3) := by decide +kernel
theorem dX8_isSheaf_4 : decode cX8_isSheaf 4 = .ok (.iload_n 0, 1) := by decide +kernel
theorem dX8_isSheaf_5 : decode cX8_isSheaf 5 = .ok (.iconst 4, 1) := by decide +kernel
theorem dX8_isSheaf_6 : decode cX8_isSheaf 6 = .ok (.if_icmp .ge 7, 3) := by decide +kernel
theorem dX8_isSheaf_9 : decode cX8_isSheaf 9 = .ok (.iconst 1, 1) := by decide +kernel
theorem dX8_isSheaf_10 : decode cX8_isSheaf 10 = .ok (.goto 4, 3) := by decide +kernel
theorem dX8_isSheaf_13 : decode cX8_isSheaf 13 = .ok (.iconst 0, 1) := by decide +kernel
theorem dX8_isSheaf_14 : decode cX8_isSheaf 14 = .ok (.ireturn, 1) := by decide +kernel
theorem dX8_isLane_0 : decode cX8_isLane 0 = .ok (.iload_n 0, 1) := by decide +kernel
theorem dX8_isLane_1 : decode cX8_isLane 1 = .ok (.ifCond .eq 8, 3) := by decide +kernel
theorem dX8_isLane_4 : decode cX8_isLane 4 = .ok (.iload_n 0, 1) := by decide +kernel
theorem dX8_isLane_5 : decode cX8_isLane 5 = .ok (.iconst 1, 1) := by decide +kernel
theorem dX8_isLane_6 : decode cX8_isLane 6 = .ok (.if_icmp .ne 7, 3) := by decide +kernel
theorem dX8_isLane_9 : decode cX8_isLane 9 = .ok (.iconst 1, 1) := by decide +kernel
theorem dX8_isLane_10 : decode cX8_isLane 10 = .ok (.goto 4, 3) := by decide +kernel
theorem dX8_isLane_13 : decode cX8_isLane 13 = .ok (.iconst 0, 1) := by decide +kernel
theorem dX8_isLane_14 : decode cX8_isLane 14 = .ok (.ireturn, 1) := by decide +kernel
theorem dX8_isWay_0 : decode cX8_isWay 0 = .ok (.iload_n 0, 1) := by decide +kernel
theorem dX8_isWay_1 : decode cX8_isWay 1 = .ok (.ifCond .lt 12, 3) := by decide +kernel
theorem dX8_isWay_4 : decode cX8_isWay 4 = .ok (.iload_n 0, 1) := by decide +kernel
theorem dX8_isWay_5 : decode cX8_isWay 5 = .ok (.iconst 2, 1) := by decide +kernel
theorem dX8_isWay_6 : decode cX8_isWay 6 = .ok (.if_icmp .gt 7, 3) := by decide +kernel
theorem dX8_isWay_9 : decode cX8_isWay 9 = .ok (.iconst 1, 1) := by decide +kernel
theorem dX8_isWay_10 : decode cX8_isWay 10 = .ok (.goto 4, 3) := by decide +kernel
theorem dX8_isWay_13 : decode cX8_isWay 13 = .ok (.iconst 0, 1) := by decide +kernel
theorem dX8_isWay_14 : decode cX8_isWay 14 = .ok (.ireturn, 1) := by decide +kernel
theorem dX8_isSwelling_0 : decode cX8_isSwelling 0 = .ok (.iload_n 0, 1) := by decide +kernel
theorem dX8_isSwelling_1 : decode cX8_isSwelling 1 = .ok (.iconst 1, 1) := by decide +kernel
theorem dX8_isSwelling_2 : decode cX8_isSwelling 2 = .ok (.if_icmp .lt 12, 3) := by decide +kernel
theorem dX8_isSwelling_5 : decode cX8_isSwelling 5 = .ok (.iload_n 0, 1) := by decide +kernel
theorem dX8_isSwelling_6 : decode cX8_isSwelling 6 = .ok (.iconst 5, 1) := by decide +kernel
theorem dX8_isSwelling_7 : decode cX8_isSwelling 7 = .ok (.if_icmp .gt 7, 3) := by decide +kernel
theorem dX8_isSwelling_10 : decode cX8_isSwelling 10 = .ok (.iconst 1, 1) := by decide +kernel
theorem dX8_isSwelling_11 : decode cX8_isSwelling 11 = .ok (.goto 4, 3) := by decide +kernel
theorem dX8_isSwelling_14 : decode cX8_isSwelling 14 = .ok (.iconst 0, 1) := by decide +kernel
theorem dX8_isSwelling_15 : decode cX8_isSwelling 15 = .ok (.ireturn, 1) := by decide +kernel
theorem dX9_init_0 : decode cX9_init 0 = .ok (.aload_n 0, 1) := by decide +kernel
theorem dX9_init_1 : decode cX9_init 1 = .ok (.invokespecial 1, 3) := by decide +kernel
theorem dX9_init_4 : decode cX9_init 4 = .ok (.aload_n 0, 1) := by decide +kernel
theorem dX9_init_5 : decode cX9_init 5 = .ok (.bipush 36, 2) := by decide +kernel
theorem dX9_init_7 : decode cX9_init 7 = .ok (.newarray .int, 2) := by decide +kernel
theorem dX9_init_9 : decode cX9_init 9 = .ok (.putfield 7, 3) := by decide +kernel
theorem dX9_init_12 : decode cX9_init 12 = .ok (.aload_n 0, 1) := by decide +kernel
theorem dX9_init_13 : decode cX9_init 13 = .ok (.iconst 4, 1) := by decide +kernel
theorem dX9_init_14 : decode cX9_init 14 = .ok (.newarray .int, 2) := by decide +kernel
theorem dX9_init_16 : decode cX9_init 16 = .ok (.dup, 1) := by decide +kernel
theorem dX9_init_17 : decode cX9_init 17 = .ok (.iconst 0, 1) := by decide +kernel
theorem dX9_init_18 : decode cX9_init 18 = .ok (.bipush (-4), 2) := by decide +kernel
theorem dX9_init_20 : decode cX9_init 20 = .ok (.iastore, 1) := by decide +kernel
theorem dX9_init_21 : decode cX9_init 21 = .ok (.dup, 1) := by decide +kernel
theorem dX9_init_22 : decode cX9_init 22 = .ok (.iconst 1, 1) := by decide +kernel
theorem dX9_init_23 : decode cX9_init 23 = .ok (.bipush (-4), 2) := by decide +kernel
theorem dX9_init_25 : decode cX9_init 25 = .ok (.iastore, 1) := by decide +kernel
theorem dX9_init_26 : decode cX9_init 26 = .ok (.dup, 1) := by decide +kernel
theorem dX9_init_27 : decode cX9_init 27 = .ok (.iconst 2, 1) := by decide +kernel
theorem dX9_init_28 : decode cX9_init 28 = .ok (.bipush (-4), 2) := by decide +kernel
theorem dX9_init_30 : decode cX9_init 30 = .ok (.iastore, 1) := by decide +kernel
theorem dX9_init_31 : decode cX9_init 31 = .ok (.dup, 1) := by decide +kernel
theorem dX9_init_32 : decode cX9_init 32 = .ok (.iconst 3, 1) := by decide +kernel
theorem dX9_init_33 : decode cX9_init 33 = .ok (.bipush (-4), 2) := by decide +kernel
theorem dX9_init_35 : decode cX9_init 35 = .ok (.iastore, 1) := by decide +kernel
theorem dX9_init_36 : decode cX9_init 36 = .ok (.putfield 13, 3) := by decide +kernel
theorem dX9_init_39 : decode cX9_init 39 = .ok (.aload_n 0, 1) := by decide +kernel
theorem dX9_init_40 : decode cX9_init 40 = .ok (.iconst 4, 1) := by decide +kernel
theorem dX9_init_41 : decode cX9_init 41 = .ok (.newarray .int, 2) := by decide +kernel
theorem dX9_init_43 : decode cX9_init 43 = .ok (.putfield 16, 3) := by decide +kernel
theorem dX9_init_46 : decode cX9_init 46 = .ok (.aload_n 0, 1) := by decide +kernel
theorem dX9_init_47 : decode cX9_init 47 = .ok (.sipush 144, 3) := by decide +kernel
theorem dX9_init_50 : decode cX9_init 50 = .ok (.newarray .long, 2) := by decide +kernel
theorem dX9_init_52 : decode cX9_init 52 = .ok (.putfield 19, 3) := by decide +kernel
theorem dX9_init_55 : decode cX9_init 55 = .ok (.aload_n 0, 1) := by decide +kernel
theorem dX9_init_56 : decode cX9_init 56 = .ok (.bipush 8, 2) := by decide +kernel
theorem dX9_init_58 : decode cX9_init 58 = .ok (.newarray .int, 2) := by decide +kernel
theorem dX9_init_60 : decode cX9_init 60 = .ok (.putfield 23, 3) := by decide +kernel
theorem dX9_init_63 : decode cX9_init 63 = .ok (.aload_n 0, 1) := by decide +kernel
theorem dX9_init_64 : decode cX9_init 64 = .ok (.bipush 8, 2) := by decide +kernel
theorem dX9_init_66 : decode cX9_init 66 = .ok (.newarray .int, 2) := by decide +kernel
theorem dX9_init_68 : decode cX9_init 68 = .ok (.putfield 26, 3) := by decide +kernel
theorem dX9_init_71 : decode cX9_init 71 = .ok (.aload_n 0, 1) := by decide +kernel
theorem dX9_init_72 : decode cX9_init 72 = .ok (.sipush 960, 3) := by decide +kernel
theorem dX9_init_75 : decode cX9_init 75 = .ok (.newarray .int, 2) := by decide +kernel
theorem dX9_init_77 : decode cX9_init 77 = .ok (.putfield 29, 3) := by decide +kernel
theorem dX9_init_80 : decode cX9_init 80 = .ok (.aload_n 0, 1) := by decide +kernel
theorem dX9_init_81 : decode cX9_init 81 = .ok (.bipush 8, 2) := by decide +kernel
theorem dX9_init_83 : decode cX9_init 83 = .ok (.newarray .int, 2) := by decide +kernel
theorem dX9_init_85 : decode cX9_init 85 = .ok (.putfield 32, 3) := by decide +kernel
theorem dX9_init_88 : decode cX9_init 88 = .ok (.aload_n 0, 1) := by decide +kernel
theorem dX9_init_89 : decode cX9_init 89 = .ok (.sipush 2880, 3) := by decide +kernel
theorem dX9_init_92 : decode cX9_init 92 = .ok (.newarray .int, 2) := by decide +kernel
theorem dX9_init_94 : decode cX9_init 94 = .ok (.putfield 35, 3) := by decide +kernel
theorem dX9_init_97 : decode cX9_init 97 = .ok (.aload_n 0, 1) := by decide +kernel
theorem dX9_init_98 : decode cX9_init 98 = .ok (.bipush 8, 2) := by decide +kernel
theorem dX9_init_100 : decode cX9_init 100 = .ok (.newarray .int, 2) := by decide +kernel
theorem dX9_init_102 : decode cX9_init 102 = .ok (.putfield 38, 3) := by decide +kernel
theorem dX9_init_105 : decode cX9_init 105 = .ok (.aload_n 0, 1) := by decide +kernel
theorem dX9_init_106 : decode cX9_init 106 = .ok (.bipush 32, 2) := by decide +kernel
theorem dX9_init_108 : decode cX9_init 108 = .ok (.newarray .int, 2) := by decide +kernel
theorem dX9_init_110 : decode cX9_init 110 = .ok (.putfield 41, 3) := by decide +kernel
theorem dX9_init_113 : decode cX9_init 113 = .ok (.aload_n 0, 1) := by decide +kernel
theorem dX9_init_114 : decode cX9_init 114 = .ok (.sipush 140, 3) := by decide +kernel
theorem dX9_init_117 : decode cX9_init 117 = .ok (.newarray .int, 2) := by decide +kernel
theorem dX9_init_119 : decode cX9_init 119 = .ok (.putfield 44, 3) := by decide +kernel
theorem dX9_init_122 : decode cX9_init 122 = .ok (.aload_n 0, 1) := by decide +kernel
theorem dX9_init_123 : decode cX9_init 123 = .ok (.sipush 140, 3) := by decide +kernel
theorem dX9_init_126 : decode cX9_init 126 = .ok (.newarray .int, 2) := by decide +kernel
theorem dX9_init_128 : decode cX9_init 128 = .ok (.putfield 47, 3) := by decide +kernel
theorem dX9_init_131 : decode cX9_init 131 = .ok (.aload_n 0, 1) := by decide +kernel
theorem dX9_init_132 : decode cX9_init 132 = .ok (.sipush 140, 3) := by decide +kernel
theorem dX9_init_135 : decode cX9_init 135 = .ok (.newarray .int, 2) := by decide +kernel
theorem dX9_init_137 : decode cX9_init 137 = .ok (.putfield 50, 3) := by decide +kernel
theorem dX9_init_140 : decode cX9_init 140 = .ok (.aload_n 0, 1) := by decide +kernel
theorem dX9_init_141 : decode cX9_init 141 = .ok (.iconst 4, 1) := by decide +kernel
theorem dX9_init_142 : decode cX9_init 142 = .ok (.newarray .int, 2) := by decide +kernel
theorem dX9_init_144 : decode cX9_init 144 = .ok (.putfield 53, 3) := by decide +kernel
theorem dX9_init_147 : decode cX9_init 147 = .ok (.return_, 1) := by decide +kernel
theorem dX9_in_0 : decode cX9_in 0 = .ok (.lload_n 0, 1) := by decide +kernel
theorem dX9_in_1 : decode cX9_in 1 = .ok (.lload_n 2, 1) := by decide +kernel
theorem dX9_in_2 : decode cX9_in 2 = .ok (.lcmp, 1) := by decide +kernel
theorem dX9_in_3 : decode cX9_in 3 = .ok (.ifCond .lt 14, 3) := by decide +kernel
theorem dX9_in_6 : decode cX9_in 6 = .ok (.lload_n 0, 1) := by decide +kernel
theorem dX9_in_7 : decode cX9_in 7 = .ok (.lload 4, 2) := by decide +kernel
theorem dX9_in_9 : decode cX9_in 9 = .ok (.lcmp, 1) := by decide +kernel
theorem dX9_in_10 : decode cX9_in 10 = .ok (.ifCond .gt 7, 3) := by decide +kernel
theorem dX9_in_13 : decode cX9_in 13 = .ok (.iconst 1, 1) := by decide +kernel
theorem dX9_in_14 : decode cX9_in 14 = .ok (.goto 4, 3) := by decide +kernel
theorem dX9_in_17 : decode cX9_in 17 = .ok (.iconst 0, 1) := by decide +kernel
theorem dX9_in_18 : decode cX9_in 18 = .ok (.ireturn, 1) := by decide +kernel
set_option maxRecDepth 20000 in
theorem ggX9_corner_X9_in : GoodIn wsX9_corner wsX9_in := goodIn_r _ [7] (by decide +kernel) (by decide +kernel)
set_option maxRecDepth 20000 in
theorem gX9_corner_X9_in : GoodIn wsX9_corner (va_wsS RX9 60 yX9_in wsX9_in) := goodIn_app (goodIn_of _ (by decide +kernel)) ggX9_corner_X9_in
set_option maxRecDepth 20000 in
theorem ggX9_corner_X9_put : GoodIn wsX9_corner wsX9_put := goodIn_r _ [11, 12, 3, 13, 14, 15, 16, 17, 18, 19, 20, 21, 22, 23, 24, 25, 26, 27, 28, 29, 30, 31, 32, 33, 34, 35, 36] (by decide +kernel) (by decide +kernel)
set_option maxRecDepth 20000 in
theorem gX9_corner_X9_put : GoodIn wsX9_corner (wsV RX9 68 RX9 yX9_put wsX9_put) := goodIn_app (goodIn_of _ (by decide +kernel)) ggX9_corner_X9_put
theorem dX9_corner_0 : decode cX9_corner 0 = .ok (.iload_n 1, 1) := by decide +kernel
theorem dX9_corner_1 : decode cX9_corner 1 = .ok (.i2l, 1) := by decide +kernel
theorem dX9_corner_2 : decode cX9_corner 2 = .ok (.ldc2_w 56, 3) := by decide +kernel
theorem dX9_corner_5 : decode cX9_corner 5 = .ok (.ldc2_w 58, 3) := by decide +kernel
theorem dX9_corner_8 : decode cX9_corner 8 = .ok (.invokestatic 60, 3) := by decide +kernel
theorem dX9_corner_11 : decode cX9_corner 11 = .ok (.ifCond .eq 31, 3) := by decide +kernel
theorem dX9_corner_14 : decode cX9_corner 14 = .ok (.iload_n 2, 1) := by decide +kernel
theorem dX9_corner_15 : decode cX9_corner 15 = .ok (.i2l, 1) := by decide +kernel
theorem dX9_corner_16 : decode cX9_corner 16 = .ok (.ldc2_w 56, 3) := by decide +kernel
theorem dX9_corner_19 : decode cX9_corner 19 = .ok (.ldc2_w 58, 3) := by decide +kernel
theorem dX9_corner_22 : decode cX9_corner 22 = .ok (.invokestatic 60, 3) := by decide +kernel
theorem dX9_corner_25 : decode cX9_corner 25 = .ok (.ifCond .eq 17, 3) := by decide +kernel
theorem dX9_corner_28 : decode cX9_corner 28 = .ok (.iload_n 3, 1) := by decide +kernel
theorem dX9_corner_29 : decode cX9_corner 29 = .ok (.i2l, 1) := by decide +kernel
theorem dX9_corner_30 : decode cX9_corner 30 = .ok (.ldc2_w 56, 3) := by decide +kernel
theorem dX9_corner_33 : decode cX9_corner 33 = .ok (.ldc2_w 58, 3) := by decide +kernel
theorem dX9_corner_36 : decode cX9_corner 36 = .ok (.invokestatic 60, 3) := by decide +kernel
theorem dX9_corner_39 : decode cX9_corner 39 = .ok (.ifCond .ne 5, 3) := by decide +kernel
theorem dX9_corner_42 : decode cX9_corner 42 = .ok (.iconst (-1), 1) := by decide +kernel
theorem dX9_corner_43 : decode cX9_corner 43 = .ok (.ireturn, 1) := by decide +kernel
theorem dX9_corner_44 : decode cX9_corner 44 = .ok (.aload_n 0, 1) := by decide +kernel
theorem dX9_corner_45 : decode cX9_corner 45 = .ok (.getfield 64, 3) := by decide +kernel
theorem dX9_corner_48 : decode cX9_corner 48 = .ok (.bipush 12, 2) := by decide +kernel
theorem dX9_corner_50 : decode cX9_corner 50 = .ok (.if_icmp .ne 6, 3) := by decide +kernel
theorem dX9_corner_53 : decode cX9_corner 53 = .ok (.bipush (-3), 2) := by decide +kernel
theorem dX9_corner_55 : decode cX9_corner 55 = .ok (.ireturn, 1) := by decide +kernel
theorem dX9_corner_56 : decode cX9_corner 56 = .ok (.aload_n 0, 1) := by decide +kernel
theorem dX9_corner_57 : decode cX9_corner 57 = .ok (.iload_n 1, 1) := by decide +kernel
theorem dX9_corner_58 : decode cX9_corner 58 = .ok (.iload_n 2, 1) := by decide +kernel
theorem dX9_corner_59 : decode cX9_corner 59 = .ok (.iload_n 3, 1) := by decide +kernel
theorem dX9_corner_60 : decode cX9_corner 60 = .ok (.invokevirtual 68, 3) := by decide +kernel
theorem dX9_corner_63 : decode cX9_corner 63 = .ok (.aload_n 0, 1) := by decide +kernel
theorem dX9_corner_64 : decode cX9_corner 64 = .ok (.getfield 64, 3) := by decide +kernel
theorem dX9_corner_67 : decode cX9_corner 67 = .ok (.ireturn, 1) := by decide +kernel
theorem dX9_put_0 : decode cX9_put 0 = .ok (.aload_n 0, 1) := by decide +kernel
theorem dX9_put_1 : decode cX9_put 1 = .ok (.getfield 7, 3) := by decide +kernel
theorem dX9_put_4 : decode cX9_put 4 = .ok (.iconst 3, 1) := by decide +kernel
theorem dX9_put_5 : decode cX9_put 5 = .ok (.aload_n 0, 1) := by decide +kernel
theorem dX9_put_6 : decode cX9_put 6 = .ok (.getfield 64, 3) := by decide +kernel
theorem dX9_put_9 : decode cX9_put 9 = .ok (.imul, 1) := by decide +kernel
theorem dX9_put_10 : decode cX9_put 10 = .ok (.iload_n 1, 1) := by decide +kernel
theorem dX9_put_11 : decode cX9_put 11 = .ok (.iastore, 1) := by decide +kernel
theorem dX9_put_12 : decode cX9_put 12 = .ok (.aload_n 0, 1) := by decide +kernel
theorem dX9_put_13 : decode cX9_put 13 = .ok (.getfield 7, 3) := by decide +kernel
theorem dX9_put_16 : decode cX9_put 16 = .ok (.iconst 3, 1) := by decide +kernel
theorem dX9_put_17 : decode cX9_put 17 = .ok (.aload_n 0, 1) := by decide +kernel
theorem dX9_put_18 : decode cX9_put 18 = .ok (.getfield 64, 3) := by decide +kernel
theorem dX9_put_21 : decode cX9_put 21 = .ok (.imul, 1) := by decide +kernel
theorem dX9_put_22 : decode cX9_put 22 = .ok (.iconst 1, 1) := by decide +kernel
theorem dX9_put_23 : decode cX9_put 23 = .ok (.iadd, 1) := by decide +kernel
theorem dX9_put_24 : decode cX9_put 24 = .ok (.iload_n 2, 1) := by decide +kernel
theorem dX9_put_25 : decode cX9_put 25 = .ok (.iastore, 1) := by decide +kernel
theorem dX9_put_26 : decode cX9_put 26 = .ok (.aload_n 0, 1) := by decide +kernel
theorem dX9_put_27 : decode cX9_put 27 = .ok (.getfield 7, 3) := by decide +kernel
theorem dX9_put_30 : decode cX9_put 30 = .ok (.iconst 3, 1) := by decide +kernel
theorem dX9_put_31 : decode cX9_put 31 = .ok (.aload_n 0, 1) := by decide +kernel
theorem dX9_put_32 : decode cX9_put 32 = .ok (.getfield 64, 3) := by decide +kernel
theorem dX9_put_35 : decode cX9_put 35 = .ok (.imul, 1) := by decide +kernel
theorem dX9_put_36 : decode cX9_put 36 = .ok (.iconst 2, 1) := by decide +kernel
theorem dX9_put_37 : decode cX9_put 37 = .ok (.iadd, 1) := by decide +kernel
theorem dX9_put_38 : decode cX9_put 38 = .ok (.iload_n 3, 1) := by decide +kernel
theorem dX9_put_39 : decode cX9_put 39 = .ok (.iastore, 1) := by decide +kernel
theorem dX9_put_40 : decode cX9_put 40 = .ok (.aload_n 0, 1) := by decide +kernel
theorem dX9_put_41 : decode cX9_put 41 = .ok (.dup, 1) := by decide +kernel
theorem dX9_put_42 : decode cX9_put 42 = .ok (.getfield 64, 3) := by decide +kernel
theorem dX9_put_45 : decode cX9_put 45 = .ok (.iconst 1, 1) := by decide +kernel
theorem dX9_put_46 : decode cX9_put 46 = .ok (.iadd, 1) := by decide +kernel
theorem dX9_put_47 : decode cX9_put 47 = .ok (.putfield 64, 3) := by decide +kernel
theorem dX9_put_50 : decode cX9_put 50 = .ok (.return_, 1) := by decide +kernel
set_option maxRecDepth 20000 in
theorem ggX9_sheaf_X9_in : GoodIn wsX9_sheaf wsX9_in := goodIn_r _ [8] (by decide +kernel) (by decide +kernel)
set_option maxRecDepth 20000 in
theorem gX9_sheaf_X9_in : GoodIn wsX9_sheaf (va_wsS RX9 60 yX9_in wsX9_in) := goodIn_app (goodIn_of _ (by decide +kernel)) ggX9_sheaf_X9_in
theorem dX9_sheaf_0 : decode cX9_sheaf 0 = .ok (.iload_n 1, 1) := by decide +kernel
theorem dX9_sheaf_1 : decode cX9_sheaf 1 = .ok (.i2l, 1) := by decide +kernel
theorem dX9_sheaf_2 : decode cX9_sheaf 2 = .ok (.lconst 0, 1) := by decide +kernel
theorem dX9_sheaf_3 : decode cX9_sheaf 3 = .ok (.ldc2_w 72, 3) := by decide +kernel
theorem dX9_sheaf_6 : decode cX9_sheaf 6 = .ok (.invokestatic 60, 3) := by decide +kernel
theorem dX9_sheaf_9 : decode cX9_sheaf 9 = .ok (.ifCond .eq 19, 3) := by decide +kernel
theorem dX9_sheaf_12 : decode cX9_sheaf 12 = .ok (.iload_n 2, 1) := by decide +kernel
theorem dX9_sheaf_13 : decode cX9_sheaf 13 = .ok (.i2l, 1) := by decide +kernel
theorem dX9_sheaf_14 : decode cX9_sheaf 14 = .ok (.lconst 0, 1) := by decide +kernel
theorem dX9_sheaf_15 : decode cX9_sheaf 15 = .ok (.lconst 1, 1) := by decide +kernel
theorem dX9_sheaf_16 : decode cX9_sheaf 16 = .ok (.invokestatic 60, 3) := by decide +kernel
theorem dX9_sheaf_19 : decode cX9_sheaf 19 = .ok (.ifCond .eq 9, 3) := by decide +kernel
theorem dX9_sheaf_22 : decode cX9_sheaf 22 = .ok (.iload_n 3, 1) := by decide +kernel
theorem dX9_sheaf_23 : decode cX9_sheaf 23 = .ok (.bipush 36, 2) := by decide +kernel
theorem dX9_sheaf_25 : decode cX9_sheaf 25 = .ok (.if_icmp .le 5, 3) := by decide +kernel
theorem dX9_sheaf_28 : decode cX9_sheaf 28 = .ok (.iconst (-1), 1) := by decide +kernel
theorem dX9_sheaf_29 : decode cX9_sheaf 29 = .ok (.ireturn, 1) := by decide +kernel
theorem dX9_sheaf_30 : decode cX9_sheaf 30 = .ok (.iload_n 3, 1) := by decide +kernel
theorem dX9_sheaf_31 : decode cX9_sheaf 31 = .ok (.ifCond .ge 6, 3) := by decide +kernel
theorem dX9_sheaf_34 : decode cX9_sheaf 34 = .ok (.bipush (-14), 2) := by decide +kernel
theorem dX9_sheaf_36 : decode cX9_sheaf 36 = .ok (.ireturn, 1) := by decide +kernel
theorem dX9_sheaf_37 : decode cX9_sheaf 37 = .ok (.aload_n 0, 1) := by decide +kernel
theorem dX9_sheaf_38 : decode cX9_sheaf 38 = .ok (.getfield 13, 3) := by decide +kernel
theorem dX9_sheaf_41 : decode cX9_sheaf 41 = .ok (.iload_n 1, 1) := by decide +kernel
theorem dX9_sheaf_42 : decode cX9_sheaf 42 = .ok (.iload_n 2, 1) := by decide +kernel
theorem dX9_sheaf_43 : decode cX9_sheaf 43 = .ok (.iastore, 1) := by decide +kernel
theorem dX9_sheaf_44 : decode cX9_sheaf 44 = .ok (.aload_n 0, 1) := by decide +kernel
theorem dX9_sheaf_45 : decode cX9_sheaf 45 = .ok (.getfield 16, 3) := by decide +kernel
theorem dX9_sheaf_48 : decode cX9_sheaf 48 = .ok (.iload_n 1, 1) := by decide +kernel
theorem dX9_sheaf_49 : decode cX9_sheaf 49 = .ok (.iload_n 3, 1) := by decide +kernel
theorem dX9_sheaf_50 : decode cX9_sheaf 50 = .ok (.iastore, 1) := by decide +kernel
theorem dX9_sheaf_51 : decode cX9_sheaf 51 = .ok (.iconst 0, 1) := by decide +kernel
theorem dX9_sheaf_52 : decode cX9_sheaf 52 = .ok (.istore 4, 2) := by decide +kernel
theorem dX9_sheaf_54 : decode cX9_sheaf 54 = .ok (.iload 4, 2) := by decide +kernel
theorem dX9_sheaf_56 : decode cX9_sheaf 56 = .ok (.bipush 36, 2) := by decide +kernel
theorem dX9_sheaf_58 : decode cX9_sheaf 58 = .ok (.if_icmp .ge 22, 3) := by decide +kernel
theorem dX9_sheaf_61 : decode cX9_sheaf 61 = .ok (.aload_n 0, 1) := by decide +kernel
theorem dX9_sheaf_62 : decode cX9_sheaf 62 = .ok (.getfield 19, 3) := by decide +kernel
theorem dX9_sheaf_65 : decode cX9_sheaf 65 = .ok (.bipush 36, 2) := by decide +kernel
theorem dX9_sheaf_67 : decode cX9_sheaf 67 = .ok (.iload_n 1, 1) := by decide +kernel
theorem dX9_sheaf_68 : decode cX9_sheaf 68 = .ok (.imul, 1) := by decide +kernel
theorem dX9_sheaf_69 : decode cX9_sheaf 69 = .ok (.iload 4, 2) := by decide +kernel
theorem dX9_sheaf_71 : decode cX9_sheaf 71 = .ok (.iadd, 1) := by decide +kernel
theorem dX9_sheaf_72 : decode cX9_sheaf 72 = .ok (.lconst 0, 1) := by decide +kernel
theorem dX9_sheaf_73 : decode cX9_sheaf 73 = .ok (.lastore, 1) := by decide +kernel
theorem dX9_sheaf_74 : decode cX9_sheaf 74 = .ok (.iinc 4 1, 3) := by decide +kernel
theorem dX9_sheaf_77 : decode cX9_sheaf 77 = .ok (.goto (-23), 3) := by decide +kernel
theorem dX9_sheaf_80 : decode cX9_sheaf 80 = .ok (.iconst 1, 1) := by decide +kernel
theorem dX9_sheaf_81 : decode cX9_sheaf 81 = .ok (.ireturn, 1) := by decide +kernel
set_option maxRecDepth 20000 in
theorem ggX9_lay_X9_in : GoodIn wsX9_lay wsX9_in := goodIn_r _ [8] (by decide +kernel) (by decide +kernel)
set_option maxRecDepth 20000 in
theorem gX9_lay_X9_in : GoodIn wsX9_lay (va_wsS RX9 60 yX9_in wsX9_in) := goodIn_app (goodIn_of _ (by decide +kernel)) ggX9_lay_X9_in
theorem dX9_lay_0 : decode cX9_lay 0 = .ok (.iload_n 1, 1) := by decide +kernel
theorem dX9_lay_1 : decode cX9_lay 1 = .ok (.i2l, 1) := by decide +kernel
theorem dX9_lay_2 : decode cX9_lay 2 = .ok (.lconst 0, 1) := by decide +kernel
theorem dX9_lay_3 : decode cX9_lay 3 = .ok (.ldc2_w 72, 3) := by decide +kernel
theorem dX9_lay_6 : decode cX9_lay 6 = .ok (.invokestatic 60, 3) := by decide +kernel
theorem dX9_lay_9 : decode cX9_lay 9 = .ok (.ifCond .ne 5, 3) := by decide +kernel
theorem dX9_lay_12 : decode cX9_lay 12 = .ok (.iconst (-1), 1) := by decide +kernel
theorem dX9_lay_13 : decode cX9_lay 13 = .ok (.ireturn, 1) := by decide +kernel
theorem dX9_lay_14 : decode cX9_lay 14 = .ok (.aload_n 0, 1) := by decide +kernel
theorem dX9_lay_15 : decode cX9_lay 15 = .ok (.getfield 13, 3) := by decide +kernel
theorem dX9_lay_18 : decode cX9_lay 18 = .ok (.iload_n 1, 1) := by decide +kernel
theorem dX9_lay_19 : decode cX9_lay 19 = .ok (.iaload, 1) := by decide +kernel
theorem dX9_lay_20 : decode cX9_lay 20 = .ok (.bipush (-4), 2) := by decide +kernel
theorem dX9_lay_22 : decode cX9_lay 22 = .ok (.if_icmp .ne 6, 3) := by decide +kernel
theorem dX9_lay_25 : decode cX9_lay 25 = .ok (.bipush (-11), 2) := by decide +kernel
theorem dX9_lay_27 : decode cX9_lay 27 = .ok (.ireturn, 1) := by decide +kernel
theorem dX9_lay_28 : decode cX9_lay 28 = .ok (.iload_n 2, 1) := by decide +kernel
theorem dX9_lay_29 : decode cX9_lay 29 = .ok (.i2l, 1) := by decide +kernel
theorem dX9_lay_30 : decode cX9_lay 30 = .ok (.lconst 0, 1) := by decide +kernel
theorem dX9_lay_31 : decode cX9_lay 31 = .ok (.aload_n 0, 1) := by decide +kernel
theorem dX9_lay_32 : decode cX9_lay 32 = .ok (.getfield 16, 3) := by decide +kernel
theorem dX9_lay_35 : decode cX9_lay 35 = .ok (.iload_n 1, 1) := by decide +kernel
theorem dX9_lay_36 : decode cX9_lay 36 = .ok (.iaload, 1) := by decide +kernel
theorem dX9_lay_37 : decode cX9_lay 37 = .ok (.iconst 1, 1) := by decide +kernel
theorem dX9_lay_38 : decode cX9_lay 38 = .ok (.isub, 1) := by decide +kernel
theorem dX9_lay_39 : decode cX9_lay 39 = .ok (.i2l, 1) := by decide +kernel
theorem dX9_lay_40 : decode cX9_lay 40 = .ok (.invokestatic 60, 3) := by decide +kernel
theorem dX9_lay_43 : decode cX9_lay 43 = .ok (.ifCond .ne 6, 3) := by decide +kernel
theorem dX9_lay_46 : decode cX9_lay 46 = .ok (.bipush (-12), 2) := by decide +kernel
theorem dX9_lay_48 : decode cX9_lay 48 = .ok (.ireturn, 1) := by decide +kernel
theorem dX9_lay_49 : decode cX9_lay 49 = .ok (.aload_n 0, 1) := by decide +kernel
theorem dX9_lay_50 : decode cX9_lay 50 = .ok (.getfield 19, 3) := by decide +kernel
theorem dX9_lay_53 : decode cX9_lay 53 = .ok (.bipush 36, 2) := by decide +kernel
theorem dX9_lay_55 : decode cX9_lay 55 = .ok (.iload_n 1, 1) := by decide +kernel
theorem dX9_lay_56 : decode cX9_lay 56 = .ok (.imul, 1) := by decide +kernel
theorem dX9_lay_57 : decode cX9_lay 57 = .ok (.iload_n 2, 1) := by decide +kernel
theorem dX9_lay_58 : decode cX9_lay 58 = .ok (.iadd, 1) := by decide +kernel
theorem dX9_lay_59 : decode cX9_lay 59 = .ok (.aload_n 0, 1) := by decide +kernel
theorem dX9_lay_60 : decode cX9_lay 60 = .ok (.getfield 13, 3) := by decide +kernel
theorem dX9_lay_63 : decode cX9_lay 63 = .ok (.iload_n 1, 1) := by decide +kernel
theorem dX9_lay_64 : decode cX9_lay 64 = .ok (.iaload, 1) := by decide +kernel
theorem dX9_lay_65 : decode cX9_lay 65 = .ok (.ifCond .ne 9, 3) := by decide +kernel
theorem dX9_lay_68 : decode cX9_lay 68 = .ok (.lload_n 3, 1) := by decide +kernel
theorem dX9_lay_69 : decode cX9_lay 69 = .ok (.l2i, 1) := by decide +kernel
theorem dX9_lay_70 : decode cX9_lay 70 = .ok (.i2l, 1) := by decide +kernel
theorem dX9_lay_71 : decode cX9_lay 71 = .ok (.goto 4, 3) := by decide +kernel
theorem dX9_lay_74 : decode cX9_lay 74 = .ok (.lload_n 3, 1) := by decide +kernel
theorem dX9_lay_75 : decode cX9_lay 75 = .ok (.lastore, 1) := by decide +kernel
theorem dX9_lay_76 : decode cX9_lay 76 = .ok (.iconst 1, 1) := by decide +kernel
theorem dX9_lay_77 : decode cX9_lay 77 = .ok (.ireturn, 1) := by decide +kernel
set_option maxRecDepth 20000 in
theorem ggX9_draw_X9_in : GoodIn wsX9_draw wsX9_in := goodIn_r _ [11] (by decide +kernel) (by decide +kernel)
set_option maxRecDepth 20000 in
theorem gX9_draw_X9_in : GoodIn wsX9_draw (va_wsS RX9 60 yX9_in wsX9_in) := goodIn_app (goodIn_of _ (by decide +kernel)) ggX9_draw_X9_in
set_option maxRecDepth 20000 in
theorem ggX9_draw_X9_put : GoodIn wsX9_draw wsX9_put := goodIn_r _ [15, 16, 3, 17, 18, 19, 20, 21, 22, 23, 24, 25, 26, 27, 28, 29, 30, 31, 32, 33, 34, 35, 36, 37, 38, 39, 40] (by decide +kernel) (by decide +kernel)
set_option maxRecDepth 20000 in
theorem gX9_draw_X9_put : GoodIn wsX9_draw (wsV RX9 68 RX9 yX9_put wsX9_put) := goodIn_app (goodIn_of _ (by decide +kernel)) ggX9_draw_X9_put
theorem dX9_draw_0 : decode cX9_draw 0 = .ok (.iload_n 1, 1) := by decide +kernel
theorem dX9_draw_1 : decode cX9_draw 1 = .ok (.i2l, 1) := by decide +kernel
theorem dX9_draw_2 : decode cX9_draw 2 = .ok (.lconst 0, 1) := by decide +kernel
theorem dX9_draw_3 : decode cX9_draw 3 = .ok (.ldc2_w 72, 3) := by decide +kernel
theorem dX9_draw_6 : decode cX9_draw 6 = .ok (.invokestatic 60, 3) := by decide +kernel
theorem dX9_draw_9 : decode cX9_draw 9 = .ok (.ifCond .eq 17, 3) := by decide +kernel
theorem dX9_draw_12 : decode cX9_draw 12 = .ok (.iload_n 2, 1) := by decide +kernel
theorem dX9_draw_13 : decode cX9_draw 13 = .ok (.i2l, 1) := by decide +kernel
theorem dX9_draw_14 : decode cX9_draw 14 = .ok (.lconst 0, 1) := by decide +kernel
theorem dX9_draw_15 : decode cX9_draw 15 = .ok (.lconst 1, 1) := by decide +kernel
theorem dX9_draw_16 : decode cX9_draw 16 = .ok (.invokestatic 60, 3) := by decide +kernel
theorem dX9_draw_19 : decode cX9_draw 19 = .ok (.ifCond .eq 7, 3) := by decide +kernel
theorem dX9_draw_22 : decode cX9_draw 22 = .ok (.iload_n 3, 1) := by decide +kernel
theorem dX9_draw_23 : decode cX9_draw 23 = .ok (.ifCond .ge 5, 3) := by decide +kernel
theorem dX9_draw_26 : decode cX9_draw 26 = .ok (.iconst (-1), 1) := by decide +kernel
theorem dX9_draw_27 : decode cX9_draw 27 = .ok (.ireturn, 1) := by decide +kernel
theorem dX9_draw_28 : decode cX9_draw 28 = .ok (.aload_n 0, 1) := by decide +kernel
theorem dX9_draw_29 : decode cX9_draw 29 = .ok (.getfield 13, 3) := by decide +kernel
theorem dX9_draw_32 : decode cX9_draw 32 = .ok (.iload_n 1, 1) := by decide +kernel
theorem dX9_draw_33 : decode cX9_draw 33 = .ok (.iaload, 1) := by decide +kernel
theorem dX9_draw_34 : decode cX9_draw 34 = .ok (.iload_n 2, 1) := by decide +kernel
theorem dX9_draw_35 : decode cX9_draw 35 = .ok (.if_icmp .eq 22, 3) := by decide +kernel
theorem dX9_draw_38 : decode cX9_draw 38 = .ok (.aload_n 0, 1) := by decide +kernel
theorem dX9_draw_39 : decode cX9_draw 39 = .ok (.getfield 13, 3) := by decide +kernel
theorem dX9_draw_42 : decode cX9_draw 42 = .ok (.iload_n 1, 1) := by decide +kernel
theorem dX9_draw_43 : decode cX9_draw 43 = .ok (.iaload, 1) := by decide +kernel
theorem dX9_draw_44 : decode cX9_draw 44 = .ok (.bipush (-4), 2) := by decide +kernel
theorem dX9_draw_46 : decode cX9_draw 46 = .ok (.if_icmp .ne 8, 3) := by decide +kernel
theorem dX9_draw_49 : decode cX9_draw 49 = .ok (.bipush (-11), 2) := by decide +kernel
theorem dX9_draw_51 : decode cX9_draw 51 = .ok (.goto 5, 3) := by decide +kernel
theorem dX9_draw_54 : decode cX9_draw 54 = .ok (.bipush (-13), 2) := by decide +kernel
theorem dX9_draw_56 : decode cX9_draw 56 = .ok (.ireturn, 1) := by decide +kernel
theorem dX9_draw_57 : decode cX9_draw 57 = .ok (.aload_n 0, 1) := by decide +kernel
theorem dX9_draw_58 : decode cX9_draw 58 = .ok (.getfield 64, 3) := by decide +kernel
theorem dX9_draw_61 : decode cX9_draw 61 = .ok (.istore 4, 2) := by decide +kernel
theorem dX9_draw_63 : decode cX9_draw 63 = .ok (.iconst 0, 1) := by decide +kernel
theorem dX9_draw_64 : decode cX9_draw 64 = .ok (.istore 5, 2) := by decide +kernel
theorem dX9_draw_66 : decode cX9_draw 66 = .ok (.iconst 0, 1) := by decide +kernel
theorem dX9_draw_67 : decode cX9_draw 67 = .ok (.istore 6, 2) := by decide +kernel
theorem dX9_draw_69 : decode cX9_draw 69 = .ok (.iload 6, 2) := by decide +kernel
theorem dX9_draw_71 : decode cX9_draw 71 = .ok (.iload_n 3, 1) := by decide +kernel
theorem dX9_draw_72 : decode cX9_draw 72 = .ok (.if_icmp .ge 162, 3) := by decide +kernel
theorem dX9_draw_75 : decode cX9_draw 75 = .ok (.iload 5, 2) := by decide +kernel
theorem dX9_draw_77 : decode cX9_draw 77 = .ok (.ifCond .ne 157, 3) := by decide +kernel
theorem dX9_draw_80 : decode cX9_draw 80 = .ok (.bipush 36, 2) := by decide +kernel
theorem dX9_draw_82 : decode cX9_draw 82 = .ok (.iload_n 1, 1) := by decide +kernel
theorem dX9_draw_83 : decode cX9_draw 83 = .ok (.imul, 1) := by decide +kernel
theorem dX9_draw_84 : decode cX9_draw 84 = .ok (.iconst 3, 1) := by decide +kernel
theorem dX9_draw_85 : decode cX9_draw 85 = .ok (.iload 6, 2) := by decide +kernel
theorem dX9_draw_87 : decode cX9_draw 87 = .ok (.imul, 1) := by decide +kernel
theorem dX9_draw_88 : decode cX9_draw 88 = .ok (.iadd, 1) := by decide +kernel
theorem dX9_draw_89 : decode cX9_draw 89 = .ok (.istore 7, 2) := by decide +kernel
theorem dX9_draw_91 : decode cX9_draw 91 = .ok (.iconst 3, 1) := by decide +kernel
theorem dX9_draw_92 : decode cX9_draw 92 = .ok (.iload 6, 2) := by decide +kernel
theorem dX9_draw_94 : decode cX9_draw 94 = .ok (.imul, 1) := by decide +kernel
theorem dX9_draw_95 : decode cX9_draw 95 = .ok (.iconst 2, 1) := by decide +kernel
theorem dX9_draw_96 : decode cX9_draw 96 = .ok (.iadd, 1) := by decide +kernel
theorem dX9_draw_97 : decode cX9_draw 97 = .ok (.aload_n 0, 1) := by decide +kernel
theorem dX9_draw_98 : decode cX9_draw 98 = .ok (.getfield 16, 3) := by decide +kernel
theorem dX9_draw_101 : decode cX9_draw 101 = .ok (.iload_n 1, 1) := by decide +kernel
theorem dX9_draw_102 : decode cX9_draw 102 = .ok (.iaload, 1) := by decide +kernel
theorem dX9_draw_103 : decode cX9_draw 103 = .ok (.if_icmp .lt 10, 3) := by decide +kernel
theorem dX9_draw_106 : decode cX9_draw 106 = .ok (.bipush (-12), 2) := by decide +kernel
theorem dX9_draw_108 : decode cX9_draw 108 = .ok (.istore 5, 2) := by decide +kernel
theorem dX9_draw_110 : decode cX9_draw 110 = .ok (.goto 118, 3) := by decide +kernel
theorem dX9_draw_113 : decode cX9_draw 113 = .ok (.aload_n 0, 1) := by decide +kernel
theorem dX9_draw_114 : decode cX9_draw 114 = .ok (.getfield 19, 3) := by decide +kernel
theorem dX9_draw_117 : decode cX9_draw 117 = .ok (.iload 7, 2) := by decide +kernel
theorem dX9_draw_119 : decode cX9_draw 119 = .ok (.laload, 1) := by decide +kernel
theorem dX9_draw_120 : decode cX9_draw 120 = .ok (.ldc2_w 56, 3) := by decide +kernel
theorem dX9_draw_123 : decode cX9_draw 123 = .ok (.ldc2_w 58, 3) := by decide +kernel
theorem dX9_draw_126 : decode cX9_draw 126 = .ok (.invokestatic 60, 3) := by decide +kernel
theorem dX9_draw_129 : decode cX9_draw 129 = .ok (.ifCond .eq 45, 3) := by decide +kernel
theorem dX9_draw_132 : decode cX9_draw 132 = .ok (.aload_n 0, 1) := by decide +kernel
theorem dX9_draw_133 : decode cX9_draw 133 = .ok (.getfield 19, 3) := by decide +kernel
theorem dX9_draw_136 : decode cX9_draw 136 = .ok (.iload 7, 2) := by decide +kernel
theorem dX9_draw_138 : decode cX9_draw 138 = .ok (.iconst 1, 1) := by decide +kernel
theorem dX9_draw_139 : decode cX9_draw 139 = .ok (.iadd, 1) := by decide +kernel
theorem dX9_draw_140 : decode cX9_draw 140 = .ok (.laload, 1) := by decide +kernel
theorem dX9_draw_141 : decode cX9_draw 141 = .ok (.ldc2_w 56, 3) := by decide +kernel
theorem dX9_draw_144 : decode cX9_draw 144 = .ok (.ldc2_w 58, 3) := by decide +kernel
theorem dX9_draw_147 : decode cX9_draw 147 = .ok (.invokestatic 60, 3) := by decide +kernel
theorem dX9_draw_150 : decode cX9_draw 150 = .ok (.ifCond .eq 24, 3) := by decide +kernel
theorem dX9_draw_153 : decode cX9_draw 153 = .ok (.aload_n 0, 1) := by decide +kernel
theorem dX9_draw_154 : decode cX9_draw 154 = .ok (.getfield 19, 3) := by decide +kernel
theorem dX9_draw_157 : decode cX9_draw 157 = .ok (.iload 7, 2) := by decide +kernel
theorem dX9_draw_159 : decode cX9_draw 159 = .ok (.iconst 2, 1) := by decide +kernel
theorem dX9_draw_160 : decode cX9_draw 160 = .ok (.iadd, 1) := by decide +kernel
theorem dX9_draw_161 : decode cX9_draw 161 = .ok (.laload, 1) := by decide +kernel
theorem dX9_draw_162 : decode cX9_draw 162 = .ok (.ldc2_w 56, 3) := by decide +kernel
theorem dX9_draw_165 : decode cX9_draw 165 = .ok (.ldc2_w 58, 3) := by decide +kernel
theorem dX9_draw_168 : decode cX9_draw 168 = .ok (.invokestatic 60, 3) := by decide +kernel
theorem dX9_draw_171 : decode cX9_draw 171 = .ok (.ifCond .ne 9, 3) := by decide +kernel
theorem dX9_draw_174 : decode cX9_draw 174 = .ok (.iconst (-1), 1) := by decide +kernel
theorem dX9_draw_175 : decode cX9_draw 175 = .ok (.istore 5, 2) := by decide +kernel
theorem dX9_draw_177 : decode cX9_draw 177 = .ok (.goto 51, 3) := by decide +kernel
theorem dX9_draw_180 : decode cX9_draw 180 = .ok (.aload_n 0, 1) := by decide +kernel
theorem dX9_draw_181 : decode cX9_draw 181 = .ok (.getfield 64, 3) := by decide +kernel
theorem dX9_draw_184 : decode cX9_draw 184 = .ok (.bipush 12, 2) := by decide +kernel
theorem dX9_draw_186 : decode cX9_draw 186 = .ok (.if_icmp .ne 10, 3) := by decide +kernel
theorem dX9_draw_189 : decode cX9_draw 189 = .ok (.bipush (-3), 2) := by decide +kernel
theorem dX9_draw_191 : decode cX9_draw 191 = .ok (.istore 5, 2) := by decide +kernel
theorem dX9_draw_193 : decode cX9_draw 193 = .ok (.goto 35, 3) := by decide +kernel
theorem dX9_draw_196 : decode cX9_draw 196 = .ok (.aload_n 0, 1) := by decide +kernel
theorem dX9_draw_197 : decode cX9_draw 197 = .ok (.aload_n 0, 1) := by decide +kernel
theorem dX9_draw_198 : decode cX9_draw 198 = .ok (.getfield 19, 3) := by decide +kernel
theorem dX9_draw_201 : decode cX9_draw 201 = .ok (.iload 7, 2) := by decide +kernel
theorem dX9_draw_203 : decode cX9_draw 203 = .ok (.laload, 1) := by decide +kernel
theorem dX9_draw_204 : decode cX9_draw 204 = .ok (.l2i, 1) := by decide +kernel
theorem dX9_draw_205 : decode cX9_draw 205 = .ok (.aload_n 0, 1) := by decide +kernel
