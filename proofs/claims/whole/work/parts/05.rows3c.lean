theorem dX9_join_145 : decode cX9_join 145 = .ok (.aload_n 0, 1) := by decide +kernel
theorem dX9_join_146 : decode cX9_join 146 = .ok (.aload_n 0, 1) := by decide +kernel
theorem dX9_join_147 : decode cX9_join 147 = .ok (.getfield 26, 3) := by decide +kernel
theorem dX9_join_150 : decode cX9_join 150 = .ok (.iload_n 1, 1) := by decide +kernel
theorem dX9_join_151 : decode cX9_join 151 = .ok (.iaload, 1) := by decide +kernel
theorem dX9_join_152 : decode cX9_join 152 = .ok (.aload_n 0, 1) := by decide +kernel
theorem dX9_join_153 : decode cX9_join 153 = .ok (.getfield 26, 3) := by decide +kernel
theorem dX9_join_156 : decode cX9_join 156 = .ok (.iload_n 2, 1) := by decide +kernel
theorem dX9_join_157 : decode cX9_join 157 = .ok (.iaload, 1) := by decide +kernel
theorem dX9_join_158 : decode cX9_join 158 = .ok (.iadd, 1) := by decide +kernel
theorem dX9_join_159 : decode cX9_join 159 = .ok (.invokevirtual 140, 3) := by decide +kernel
theorem dX9_join_162 : decode cX9_join 162 = .ok (.ireturn, 1) := by decide +kernel
set_option maxRecDepth 20000 in
theorem ggX9_slice_X9_is : GoodIn wsX9_slice wsX9_is := goodIn_r _ [8, 3, 9, 10, 7, 11, 96, 97, 98, 99, 100, 101, 102, 103, 104, 105, 106, 107, 108, 109, 110, 111, 112, 113, 114, 115, 116, 117, 118, 119] (by decide +kernel) (by decide +kernel)
set_option maxRecDepth 20000 in
theorem gX9_slice_X9_is : GoodIn wsX9_slice (wsV RX9 157 RX9 yX9_is wsX9_is) := goodIn_app (goodIn_of _ (by decide +kernel)) ggX9_slice_X9_is
set_option maxRecDepth 20000 in
theorem ggX9_slice_X9_in : GoodIn wsX9_slice wsX9_in := goodIn_r _ [11] (by decide +kernel) (by decide +kernel)
set_option maxRecDepth 20000 in
theorem gX9_slice_X9_in : GoodIn wsX9_slice (va_wsS RX9 60 yX9_in wsX9_in) := goodIn_app (goodIn_of _ (by decide +kernel)) ggX9_slice_X9_in
set_option maxRecDepth 20000 in
theorem ggX9_slice_X9_least : GoodIn wsX9_slice wsX9_least := goodIn_r _ [15, 16, 17, 96, 97, 98, 99, 100, 101, 102, 103, 104, 105, 106, 107, 108, 109, 110, 111, 112, 113, 114, 115, 116, 117, 118, 119] (by decide +kernel) (by decide +kernel)
set_option maxRecDepth 20000 in
theorem gX9_slice_X9_least : GoodIn wsX9_slice (wsV RX9 143 RX9 yX9_least wsX9_least) := goodIn_app (goodIn_of _ (by decide +kernel)) ggX9_slice_X9_least
set_option maxRecDepth 20000 in
theorem ggX9_slice_X9_greatest : GoodIn wsX9_slice wsX9_greatest := goodIn_r _ [21, 16, 17, 96, 97, 98, 99, 100, 101, 102, 103, 104, 105, 106, 107, 108, 109, 110, 111, 112, 113, 114, 115, 116, 117, 118, 119] (by decide +kernel) (by decide +kernel)
set_option maxRecDepth 20000 in
theorem gX9_slice_X9_greatest : GoodIn wsX9_slice (wsV RX9 146 RX9 yX9_greatest wsX9_greatest) := goodIn_app (goodIn_of _ (by decide +kernel)) ggX9_slice_X9_greatest
set_option maxRecDepth 20000 in
theorem ggX9_slice_X9_where : GoodIn wsX9_slice wsX9_where := goodIn_r _ [25, 17, 26, 27, 28, 29, 96, 97, 98, 99, 100, 101, 102, 103, 104, 105, 106, 107, 108, 109, 110, 111, 112, 113, 114, 115, 116, 117, 118, 119] (by decide +kernel) (by decide +kernel)
set_option maxRecDepth 20000 in
theorem gX9_slice_X9_where : GoodIn wsX9_slice (wsV RX9 149 RX9 yX9_where wsX9_where) := goodIn_app (goodIn_of _ (by decide +kernel)) ggX9_slice_X9_where
set_option maxRecDepth 20000 in
theorem ggX9_slice_X9_point : GoodIn wsX9_slice wsX9_point := goodIn_r _ [33, 2, 34, 35, 36, 37, 38, 39, 7, 40, 96, 97, 98, 99, 100, 101, 102, 103, 104, 105, 106, 107, 108, 109, 110, 111, 112, 113, 114, 115, 116, 117, 118, 119] (by decide +kernel) (by decide +kernel)
set_option maxRecDepth 20000 in
theorem gX9_slice_X9_point : GoodIn wsX9_slice (wsV RX9 137 RX9 yX9_point wsX9_point) := goodIn_app (goodIn_of _ (by decide +kernel)) ggX9_slice_X9_point
set_option maxRecDepth 20000 in
theorem ggX9_slice_X9_made : GoodIn wsX9_slice wsX9_made := goodIn_r _ [44, 3, 27, 28, 2, 34, 35, 36, 26, 45, 46, 47, 16, 17, 48, 49, 50, 51, 7, 52, 53, 54, 55, 56, 57, 58, 59, 60, 61, 62, 63, 64, 65, 66, 67, 68, 69, 70, 71, 72, 73, 74, 75, 76, 77, 78, 79, 80, 81, 82, 83, 29, 84, 85, 86, 87, 88, 89, 90, 91, 92, 93, 94, 95, 96, 97, 98, 99, 100, 101, 102, 103, 104, 105, 106, 107, 108, 109, 110, 111, 112, 113, 114, 115, 116, 117, 118, 119] (by decide +kernel) (by decide +kernel)
set_option maxRecDepth 20000 in
theorem gX9_slice_X9_made : GoodIn wsX9_slice (wsV RX9 140 RX9 yX9_made wsX9_made) := goodIn_app (goodIn_of _ (by decide +kernel)) ggX9_slice_X9_made
theorem dX9_slice_0 : decode cX9_slice 0 = .ok (.aload_n 0, 1) := by decide +kernel
theorem dX9_slice_1 : decode cX9_slice 1 = .ok (.iload_n 1, 1) := by decide +kernel
theorem dX9_slice_2 : decode cX9_slice 2 = .ok (.invokevirtual 157, 3) := by decide +kernel
theorem dX9_slice_5 : decode cX9_slice 5 = .ok (.ifCond .eq 15, 3) := by decide +kernel
theorem dX9_slice_8 : decode cX9_slice 8 = .ok (.iload_n 2, 1) := by decide +kernel
theorem dX9_slice_9 : decode cX9_slice 9 = .ok (.i2l, 1) := by decide +kernel
theorem dX9_slice_10 : decode cX9_slice 10 = .ok (.lconst 0, 1) := by decide +kernel
theorem dX9_slice_11 : decode cX9_slice 11 = .ok (.ldc2_w 166, 3) := by decide +kernel
theorem dX9_slice_14 : decode cX9_slice 14 = .ok (.invokestatic 60, 3) := by decide +kernel
theorem dX9_slice_17 : decode cX9_slice 17 = .ok (.ifCond .ne 5, 3) := by decide +kernel
theorem dX9_slice_20 : decode cX9_slice 20 = .ok (.iconst (-1), 1) := by decide +kernel
theorem dX9_slice_21 : decode cX9_slice 21 = .ok (.ireturn, 1) := by decide +kernel
theorem dX9_slice_22 : decode cX9_slice 22 = .ok (.aload_n 0, 1) := by decide +kernel
theorem dX9_slice_23 : decode cX9_slice 23 = .ok (.iconst 0, 1) := by decide +kernel
theorem dX9_slice_24 : decode cX9_slice 24 = .ok (.putfield 74, 3) := by decide +kernel
theorem dX9_slice_27 : decode cX9_slice 27 = .ok (.aload_n 0, 1) := by decide +kernel
theorem dX9_slice_28 : decode cX9_slice 28 = .ok (.iload_n 1, 1) := by decide +kernel
theorem dX9_slice_29 : decode cX9_slice 29 = .ok (.iconst 0, 1) := by decide +kernel
theorem dX9_slice_30 : decode cX9_slice 30 = .ok (.invokevirtual 143, 3) := by decide +kernel
theorem dX9_slice_33 : decode cX9_slice 33 = .ok (.istore 4, 2) := by decide +kernel
theorem dX9_slice_35 : decode cX9_slice 35 = .ok (.iload 4, 2) := by decide +kernel
theorem dX9_slice_37 : decode cX9_slice 37 = .ok (.aload_n 0, 1) := by decide +kernel
theorem dX9_slice_38 : decode cX9_slice 38 = .ok (.iload_n 1, 1) := by decide +kernel
theorem dX9_slice_39 : decode cX9_slice 39 = .ok (.iconst 0, 1) := by decide +kernel
theorem dX9_slice_40 : decode cX9_slice 40 = .ok (.invokevirtual 146, 3) := by decide +kernel
theorem dX9_slice_43 : decode cX9_slice 43 = .ok (.if_icmp .gt 112, 3) := by decide +kernel
theorem dX9_slice_46 : decode cX9_slice 46 = .ok (.aload_n 0, 1) := by decide +kernel
theorem dX9_slice_47 : decode cX9_slice 47 = .ok (.iload_n 1, 1) := by decide +kernel
theorem dX9_slice_48 : decode cX9_slice 48 = .ok (.iconst 1, 1) := by decide +kernel
theorem dX9_slice_49 : decode cX9_slice 49 = .ok (.invokevirtual 143, 3) := by decide +kernel
theorem dX9_slice_52 : decode cX9_slice 52 = .ok (.istore 5, 2) := by decide +kernel
theorem dX9_slice_54 : decode cX9_slice 54 = .ok (.iload 5, 2) := by decide +kernel
theorem dX9_slice_56 : decode cX9_slice 56 = .ok (.aload_n 0, 1) := by decide +kernel
theorem dX9_slice_57 : decode cX9_slice 57 = .ok (.iload_n 1, 1) := by decide +kernel
theorem dX9_slice_58 : decode cX9_slice 58 = .ok (.iconst 1, 1) := by decide +kernel
theorem dX9_slice_59 : decode cX9_slice 59 = .ok (.invokevirtual 146, 3) := by decide +kernel
theorem dX9_slice_62 : decode cX9_slice 62 = .ok (.if_icmp .gt 87, 3) := by decide +kernel
theorem dX9_slice_65 : decode cX9_slice 65 = .ok (.aload_n 0, 1) := by decide +kernel
theorem dX9_slice_66 : decode cX9_slice 66 = .ok (.iload_n 1, 1) := by decide +kernel
theorem dX9_slice_67 : decode cX9_slice 67 = .ok (.iconst 2, 1) := by decide +kernel
theorem dX9_slice_68 : decode cX9_slice 68 = .ok (.invokevirtual 143, 3) := by decide +kernel
theorem dX9_slice_71 : decode cX9_slice 71 = .ok (.istore 6, 2) := by decide +kernel
theorem dX9_slice_73 : decode cX9_slice 73 = .ok (.iload 6, 2) := by decide +kernel
theorem dX9_slice_75 : decode cX9_slice 75 = .ok (.aload_n 0, 1) := by decide +kernel
theorem dX9_slice_76 : decode cX9_slice 76 = .ok (.iload_n 1, 1) := by decide +kernel
theorem dX9_slice_77 : decode cX9_slice 77 = .ok (.iconst 2, 1) := by decide +kernel
theorem dX9_slice_78 : decode cX9_slice 78 = .ok (.invokevirtual 146, 3) := by decide +kernel
theorem dX9_slice_81 : decode cX9_slice 81 = .ok (.if_icmp .gt 62, 3) := by decide +kernel
theorem dX9_slice_84 : decode cX9_slice 84 = .ok (.iload_n 2, 1) := by decide +kernel
theorem dX9_slice_85 : decode cX9_slice 85 = .ok (.ifCond .ne 8, 3) := by decide +kernel
theorem dX9_slice_88 : decode cX9_slice 88 = .ok (.iload 4, 2) := by decide +kernel
theorem dX9_slice_90 : decode cX9_slice 90 = .ok (.goto 15, 3) := by decide +kernel
theorem dX9_slice_93 : decode cX9_slice 93 = .ok (.iload_n 2, 1) := by decide +kernel
theorem dX9_slice_94 : decode cX9_slice 94 = .ok (.iconst 1, 1) := by decide +kernel
theorem dX9_slice_95 : decode cX9_slice 95 = .ok (.if_icmp .ne 8, 3) := by decide +kernel
theorem dX9_slice_98 : decode cX9_slice 98 = .ok (.iload 5, 2) := by decide +kernel
theorem dX9_slice_100 : decode cX9_slice 100 = .ok (.goto 5, 3) := by decide +kernel
theorem dX9_slice_103 : decode cX9_slice 103 = .ok (.iload 6, 2) := by decide +kernel
theorem dX9_slice_105 : decode cX9_slice 105 = .ok (.iload_n 3, 1) := by decide +kernel
theorem dX9_slice_106 : decode cX9_slice 106 = .ok (.if_icmp .ne 31, 3) := by decide +kernel
theorem dX9_slice_109 : decode cX9_slice 109 = .ok (.aload_n 0, 1) := by decide +kernel
theorem dX9_slice_110 : decode cX9_slice 110 = .ok (.iload_n 1, 1) := by decide +kernel
theorem dX9_slice_111 : decode cX9_slice 111 = .ok (.iload 4, 2) := by decide +kernel
theorem dX9_slice_113 : decode cX9_slice 113 = .ok (.i2l, 1) := by decide +kernel
theorem dX9_slice_114 : decode cX9_slice 114 = .ok (.iload 5, 2) := by decide +kernel
theorem dX9_slice_116 : decode cX9_slice 116 = .ok (.i2l, 1) := by decide +kernel
theorem dX9_slice_117 : decode cX9_slice 117 = .ok (.iload 6, 2) := by decide +kernel
theorem dX9_slice_119 : decode cX9_slice 119 = .ok (.i2l, 1) := by decide +kernel
theorem dX9_slice_120 : decode cX9_slice 120 = .ok (.lconst 1, 1) := by decide +kernel
theorem dX9_slice_121 : decode cX9_slice 121 = .ok (.invokevirtual 149, 3) := by decide +kernel
theorem dX9_slice_124 : decode cX9_slice 124 = .ok (.ifCond .le 13, 3) := by decide +kernel
theorem dX9_slice_127 : decode cX9_slice 127 = .ok (.aload_n 0, 1) := by decide +kernel
theorem dX9_slice_128 : decode cX9_slice 128 = .ok (.iload 4, 2) := by decide +kernel
theorem dX9_slice_130 : decode cX9_slice 130 = .ok (.iload 5, 2) := by decide +kernel
theorem dX9_slice_132 : decode cX9_slice 132 = .ok (.iload 6, 2) := by decide +kernel
theorem dX9_slice_134 : decode cX9_slice 134 = .ok (.invokevirtual 137, 3) := by decide +kernel
theorem dX9_slice_137 : decode cX9_slice 137 = .ok (.iinc 6 1, 3) := by decide +kernel
theorem dX9_slice_140 : decode cX9_slice 140 = .ok (.goto (-67), 3) := by decide +kernel
theorem dX9_slice_143 : decode cX9_slice 143 = .ok (.iinc 5 1, 3) := by decide +kernel
theorem dX9_slice_146 : decode cX9_slice 146 = .ok (.goto (-92), 3) := by decide +kernel
theorem dX9_slice_149 : decode cX9_slice 149 = .ok (.iinc 4 1, 3) := by decide +kernel
theorem dX9_slice_152 : decode cX9_slice 152 = .ok (.goto (-117), 3) := by decide +kernel
theorem dX9_slice_155 : decode cX9_slice 155 = .ok (.aload_n 0, 1) := by decide +kernel
theorem dX9_slice_156 : decode cX9_slice 156 = .ok (.getfield 74, 3) := by decide +kernel
theorem dX9_slice_159 : decode cX9_slice 159 = .ok (.ifCond .ne 6, 3) := by decide +kernel
theorem dX9_slice_162 : decode cX9_slice 162 = .ok (.bipush (-4), 2) := by decide +kernel
theorem dX9_slice_164 : decode cX9_slice 164 = .ok (.ireturn, 1) := by decide +kernel
theorem dX9_slice_165 : decode cX9_slice 165 = .ok (.aload_n 0, 1) := by decide +kernel
theorem dX9_slice_166 : decode cX9_slice 166 = .ok (.getfield 124, 3) := by decide +kernel
theorem dX9_slice_169 : decode cX9_slice 169 = .ok (.bipush 8, 2) := by decide +kernel
theorem dX9_slice_171 : decode cX9_slice 171 = .ok (.if_icmp .ne 8, 3) := by decide +kernel
theorem dX9_slice_174 : decode cX9_slice 174 = .ok (.bipush (-3), 2) := by decide +kernel
theorem dX9_slice_176 : decode cX9_slice 176 = .ok (.goto 11, 3) := by decide +kernel
theorem dX9_slice_179 : decode cX9_slice 179 = .ok (.aload_n 0, 1) := by decide +kernel
theorem dX9_slice_180 : decode cX9_slice 180 = .ok (.aload_n 0, 1) := by decide +kernel
theorem dX9_slice_181 : decode cX9_slice 181 = .ok (.getfield 74, 3) := by decide +kernel
theorem dX9_slice_184 : decode cX9_slice 184 = .ok (.invokevirtual 140, 3) := by decide +kernel
theorem dX9_slice_187 : decode cX9_slice 187 = .ok (.ireturn, 1) := by decide +kernel
set_option maxRecDepth 20000 in
theorem ggX9_within_X9_is : GoodIn wsX9_within wsX9_is := goodIn_r _ [7, 8, 9, 10, 6, 11, 20, 21, 22, 23, 24, 25, 26, 27, 28, 29, 30, 31, 32, 33, 34, 35, 36, 37, 38, 39, 40, 41, 42, 43] (by decide +kernel) (by decide +kernel)
set_option maxRecDepth 20000 in
theorem gX9_within_X9_is : GoodIn wsX9_within (wsV RX9 157 RX9 yX9_is wsX9_is) := goodIn_app (goodIn_of _ (by decide +kernel)) ggX9_within_X9_is
set_option maxRecDepth 20000 in
theorem ggX9_within_X9_where : GoodIn wsX9_within wsX9_where := goodIn_r _ [15, 2, 16, 17, 18, 19, 20, 21, 22, 23, 24, 25, 26, 27, 28, 29, 30, 31, 32, 33, 34, 35, 36, 37, 38, 39, 40, 41, 42, 43] (by decide +kernel) (by decide +kernel)
set_option maxRecDepth 20000 in
theorem gX9_within_X9_where : GoodIn wsX9_within (wsV RX9 149 RX9 yX9_where wsX9_where) := goodIn_app (goodIn_of _ (by decide +kernel)) ggX9_within_X9_where
theorem dX9_within_0 : decode cX9_within 0 = .ok (.aload_n 0, 1) := by decide +kernel
theorem dX9_within_1 : decode cX9_within 1 = .ok (.iload_n 1, 1) := by decide +kernel
theorem dX9_within_2 : decode cX9_within 2 = .ok (.invokevirtual 157, 3) := by decide +kernel
theorem dX9_within_5 : decode cX9_within 5 = .ok (.ifCond .eq 11, 3) := by decide +kernel
theorem dX9_within_8 : decode cX9_within 8 = .ok (.aload_n 0, 1) := by decide +kernel
theorem dX9_within_9 : decode cX9_within 9 = .ok (.iload_n 2, 1) := by decide +kernel
theorem dX9_within_10 : decode cX9_within 10 = .ok (.invokevirtual 157, 3) := by decide +kernel
theorem dX9_within_13 : decode cX9_within 13 = .ok (.ifCond .ne 5, 3) := by decide +kernel
theorem dX9_within_16 : decode cX9_within 16 = .ok (.iconst (-1), 1) := by decide +kernel
theorem dX9_within_17 : decode cX9_within 17 = .ok (.ireturn, 1) := by decide +kernel
theorem dX9_within_18 : decode cX9_within 18 = .ok (.iconst 1, 1) := by decide +kernel
theorem dX9_within_19 : decode cX9_within 19 = .ok (.istore_n 3, 1) := by decide +kernel
theorem dX9_within_20 : decode cX9_within 20 = .ok (.iconst 0, 1) := by decide +kernel
theorem dX9_within_21 : decode cX9_within 21 = .ok (.istore 4, 2) := by decide +kernel
theorem dX9_within_23 : decode cX9_within 23 = .ok (.iload 4, 2) := by decide +kernel
theorem dX9_within_25 : decode cX9_within 25 = .ok (.aload_n 0, 1) := by decide +kernel
theorem dX9_within_26 : decode cX9_within 26 = .ok (.getfield 26, 3) := by decide +kernel
theorem dX9_within_29 : decode cX9_within 29 = .ok (.iload_n 1, 1) := by decide +kernel
theorem dX9_within_30 : decode cX9_within 30 = .ok (.iaload, 1) := by decide +kernel
theorem dX9_within_31 : decode cX9_within 31 = .ok (.if_icmp .ge 67, 3) := by decide +kernel
theorem dX9_within_34 : decode cX9_within 34 = .ok (.bipush 120, 2) := by decide +kernel
theorem dX9_within_36 : decode cX9_within 36 = .ok (.iload_n 1, 1) := by decide +kernel
theorem dX9_within_37 : decode cX9_within 37 = .ok (.imul, 1) := by decide +kernel
theorem dX9_within_38 : decode cX9_within 38 = .ok (.iconst 3, 1) := by decide +kernel
theorem dX9_within_39 : decode cX9_within 39 = .ok (.iload 4, 2) := by decide +kernel
theorem dX9_within_41 : decode cX9_within 41 = .ok (.imul, 1) := by decide +kernel
theorem dX9_within_42 : decode cX9_within 42 = .ok (.iadd, 1) := by decide +kernel
theorem dX9_within_43 : decode cX9_within 43 = .ok (.istore 5, 2) := by decide +kernel
theorem dX9_within_45 : decode cX9_within 45 = .ok (.iload_n 3, 1) := by decide +kernel
theorem dX9_within_46 : decode cX9_within 46 = .ok (.ifCond .eq 44, 3) := by decide +kernel
theorem dX9_within_49 : decode cX9_within 49 = .ok (.aload_n 0, 1) := by decide +kernel
theorem dX9_within_50 : decode cX9_within 50 = .ok (.iload_n 2, 1) := by decide +kernel
theorem dX9_within_51 : decode cX9_within 51 = .ok (.aload_n 0, 1) := by decide +kernel
theorem dX9_within_52 : decode cX9_within 52 = .ok (.getfield 29, 3) := by decide +kernel
theorem dX9_within_55 : decode cX9_within 55 = .ok (.iload 5, 2) := by decide +kernel
theorem dX9_within_57 : decode cX9_within 57 = .ok (.iaload, 1) := by decide +kernel
theorem dX9_within_58 : decode cX9_within 58 = .ok (.i2l, 1) := by decide +kernel
theorem dX9_within_59 : decode cX9_within 59 = .ok (.aload_n 0, 1) := by decide +kernel
theorem dX9_within_60 : decode cX9_within 60 = .ok (.getfield 29, 3) := by decide +kernel
theorem dX9_within_63 : decode cX9_within 63 = .ok (.iload 5, 2) := by decide +kernel
theorem dX9_within_65 : decode cX9_within 65 = .ok (.iconst 1, 1) := by decide +kernel
theorem dX9_within_66 : decode cX9_within 66 = .ok (.iadd, 1) := by decide +kernel
theorem dX9_within_67 : decode cX9_within 67 = .ok (.iaload, 1) := by decide +kernel
theorem dX9_within_68 : decode cX9_within 68 = .ok (.i2l, 1) := by decide +kernel
theorem dX9_within_69 : decode cX9_within 69 = .ok (.aload_n 0, 1) := by decide +kernel
theorem dX9_within_70 : decode cX9_within 70 = .ok (.getfield 29, 3) := by decide +kernel
theorem dX9_within_73 : decode cX9_within 73 = .ok (.iload 5, 2) := by decide +kernel
theorem dX9_within_75 : decode cX9_within 75 = .ok (.iconst 2, 1) := by decide +kernel
theorem dX9_within_76 : decode cX9_within 76 = .ok (.iadd, 1) := by decide +kernel
theorem dX9_within_77 : decode cX9_within 77 = .ok (.iaload, 1) := by decide +kernel
theorem dX9_within_78 : decode cX9_within 78 = .ok (.i2l, 1) := by decide +kernel
theorem dX9_within_79 : decode cX9_within 79 = .ok (.lconst 1, 1) := by decide +kernel
theorem dX9_within_80 : decode cX9_within 80 = .ok (.invokevirtual 149, 3) := by decide +kernel
theorem dX9_within_83 : decode cX9_within 83 = .ok (.ifCond .le 7, 3) := by decide +kernel
theorem dX9_within_86 : decode cX9_within 86 = .ok (.iconst 1, 1) := by decide +kernel
theorem dX9_within_87 : decode cX9_within 87 = .ok (.goto 4, 3) := by decide +kernel
theorem dX9_within_90 : decode cX9_within 90 = .ok (.iconst 0, 1) := by decide +kernel
theorem dX9_within_91 : decode cX9_within 91 = .ok (.istore_n 3, 1) := by decide +kernel
theorem dX9_within_92 : decode cX9_within 92 = .ok (.iinc 4 1, 3) := by decide +kernel
theorem dX9_within_95 : decode cX9_within 95 = .ok (.goto (-72), 3) := by decide +kernel
theorem dX9_within_98 : decode cX9_within 98 = .ok (.iload_n 3, 1) := by decide +kernel
theorem dX9_within_99 : decode cX9_within 99 = .ok (.ifCond .eq 7, 3) := by decide +kernel
theorem dX9_within_102 : decode cX9_within 102 = .ok (.iconst 1, 1) := by decide +kernel
theorem dX9_within_103 : decode cX9_within 103 = .ok (.goto 4, 3) := by decide +kernel
theorem dX9_within_106 : decode cX9_within 106 = .ok (.iconst 0, 1) := by decide +kernel
theorem dX9_within_107 : decode cX9_within 107 = .ok (.ireturn, 1) := by decide +kernel
set_option maxRecDepth 20000 in
theorem ggX9_same_X9_is : GoodIn wsX9_same wsX9_is := goodIn_r _ [7, 8, 9, 10, 6, 11, 12, 13, 14, 15, 16, 17, 18, 19, 20, 21, 22, 23, 24, 25, 26, 27, 28, 29, 30, 31, 32, 33, 34, 35] (by decide +kernel) (by decide +kernel)
set_option maxRecDepth 20000 in
theorem gX9_same_X9_is : GoodIn wsX9_same (wsV RX9 157 RX9 yX9_is wsX9_is) := goodIn_app (goodIn_of _ (by decide +kernel)) ggX9_same_X9_is
theorem dX9_same_0 : decode cX9_same 0 = .ok (.aload_n 0, 1) := by decide +kernel
theorem dX9_same_1 : decode cX9_same 1 = .ok (.iload_n 1, 1) := by decide +kernel
theorem dX9_same_2 : decode cX9_same 2 = .ok (.invokevirtual 157, 3) := by decide +kernel
theorem dX9_same_5 : decode cX9_same 5 = .ok (.ifCond .eq 11, 3) := by decide +kernel
theorem dX9_same_8 : decode cX9_same 8 = .ok (.aload_n 0, 1) := by decide +kernel
theorem dX9_same_9 : decode cX9_same 9 = .ok (.iload_n 2, 1) := by decide +kernel
theorem dX9_same_10 : decode cX9_same 10 = .ok (.invokevirtual 157, 3) := by decide +kernel
theorem dX9_same_13 : decode cX9_same 13 = .ok (.ifCond .ne 5, 3) := by decide +kernel
theorem dX9_same_16 : decode cX9_same 16 = .ok (.iconst (-1), 1) := by decide +kernel
theorem dX9_same_17 : decode cX9_same 17 = .ok (.ireturn, 1) := by decide +kernel
theorem dX9_same_18 : decode cX9_same 18 = .ok (.aload_n 0, 1) := by decide +kernel
theorem dX9_same_19 : decode cX9_same 19 = .ok (.getfield 26, 3) := by decide +kernel
theorem dX9_same_22 : decode cX9_same 22 = .ok (.iload_n 1, 1) := by decide +kernel
theorem dX9_same_23 : decode cX9_same 23 = .ok (.iaload, 1) := by decide +kernel
theorem dX9_same_24 : decode cX9_same 24 = .ok (.aload_n 0, 1) := by decide +kernel
theorem dX9_same_25 : decode cX9_same 25 = .ok (.getfield 26, 3) := by decide +kernel
theorem dX9_same_28 : decode cX9_same 28 = .ok (.iload_n 2, 1) := by decide +kernel
theorem dX9_same_29 : decode cX9_same 29 = .ok (.iaload, 1) := by decide +kernel
theorem dX9_same_30 : decode cX9_same 30 = .ok (.if_icmp .ne 7, 3) := by decide +kernel
theorem dX9_same_33 : decode cX9_same 33 = .ok (.iconst 1, 1) := by decide +kernel
theorem dX9_same_34 : decode cX9_same 34 = .ok (.goto 4, 3) := by decide +kernel
theorem dX9_same_37 : decode cX9_same 37 = .ok (.iconst 0, 1) := by decide +kernel
theorem dX9_same_38 : decode cX9_same 38 = .ok (.istore_n 3, 1) := by decide +kernel
theorem dX9_same_39 : decode cX9_same 39 = .ok (.iload_n 3, 1) := by decide +kernel
theorem dX9_same_40 : decode cX9_same 40 = .ok (.istore 4, 2) := by decide +kernel
theorem dX9_same_42 : decode cX9_same 42 = .ok (.iconst 0, 1) := by decide +kernel
theorem dX9_same_43 : decode cX9_same 43 = .ok (.istore 5, 2) := by decide +kernel
theorem dX9_same_45 : decode cX9_same 45 = .ok (.iload 5, 2) := by decide +kernel
theorem dX9_same_47 : decode cX9_same 47 = .ok (.iconst 3, 1) := by decide +kernel
theorem dX9_same_48 : decode cX9_same 48 = .ok (.aload_n 0, 1) := by decide +kernel
theorem dX9_same_49 : decode cX9_same 49 = .ok (.getfield 26, 3) := by decide +kernel
theorem dX9_same_52 : decode cX9_same 52 = .ok (.iload_n 1, 1) := by decide +kernel
theorem dX9_same_53 : decode cX9_same 53 = .ok (.iaload, 1) := by decide +kernel
theorem dX9_same_54 : decode cX9_same 54 = .ok (.imul, 1) := by decide +kernel
theorem dX9_same_55 : decode cX9_same 55 = .ok (.if_icmp .ge 97, 3) := by decide +kernel
theorem dX9_same_58 : decode cX9_same 58 = .ok (.iload_n 3, 1) := by decide +kernel
theorem dX9_same_59 : decode cX9_same 59 = .ok (.ifCond .eq 93, 3) := by decide +kernel
theorem dX9_same_62 : decode cX9_same 62 = .ok (.aload_n 0, 1) := by decide +kernel
theorem dX9_same_63 : decode cX9_same 63 = .ok (.getfield 29, 3) := by decide +kernel
theorem dX9_same_66 : decode cX9_same 66 = .ok (.bipush 120, 2) := by decide +kernel
theorem dX9_same_68 : decode cX9_same 68 = .ok (.iload_n 1, 1) := by decide +kernel
theorem dX9_same_69 : decode cX9_same 69 = .ok (.imul, 1) := by decide +kernel
theorem dX9_same_70 : decode cX9_same 70 = .ok (.iload 5, 2) := by decide +kernel
theorem dX9_same_72 : decode cX9_same 72 = .ok (.iadd, 1) := by decide +kernel
theorem dX9_same_73 : decode cX9_same 73 = .ok (.iaload, 1) := by decide +kernel
theorem dX9_same_74 : decode cX9_same 74 = .ok (.aload_n 0, 1) := by decide +kernel
theorem dX9_same_75 : decode cX9_same 75 = .ok (.getfield 29, 3) := by decide +kernel
theorem dX9_same_78 : decode cX9_same 78 = .ok (.bipush 120, 2) := by decide +kernel
theorem dX9_same_80 : decode cX9_same 80 = .ok (.iload_n 2, 1) := by decide +kernel
theorem dX9_same_81 : decode cX9_same 81 = .ok (.imul, 1) := by decide +kernel
theorem dX9_same_82 : decode cX9_same 82 = .ok (.iload 5, 2) := by decide +kernel
theorem dX9_same_84 : decode cX9_same 84 = .ok (.iadd, 1) := by decide +kernel
theorem dX9_same_85 : decode cX9_same 85 = .ok (.iaload, 1) := by decide +kernel
theorem dX9_same_86 : decode cX9_same 86 = .ok (.isub, 1) := by decide +kernel
theorem dX9_same_87 : decode cX9_same 87 = .ok (.istore 6, 2) := by decide +kernel
theorem dX9_same_89 : decode cX9_same 89 = .ok (.iload 4, 2) := by decide +kernel
theorem dX9_same_91 : decode cX9_same 91 = .ok (.ifCond .eq 12, 3) := by decide +kernel
theorem dX9_same_94 : decode cX9_same 94 = .ok (.iload 6, 2) := by decide +kernel
theorem dX9_same_96 : decode cX9_same 96 = .ok (.ifCond .ne 7, 3) := by decide +kernel
theorem dX9_same_99 : decode cX9_same 99 = .ok (.iconst 1, 1) := by decide +kernel
theorem dX9_same_100 : decode cX9_same 100 = .ok (.goto 4, 3) := by decide +kernel
theorem dX9_same_103 : decode cX9_same 103 = .ok (.iconst 0, 1) := by decide +kernel
theorem dX9_same_104 : decode cX9_same 104 = .ok (.istore 4, 2) := by decide +kernel
theorem dX9_same_106 : decode cX9_same 106 = .ok (.iload 6, 2) := by decide +kernel
theorem dX9_same_108 : decode cX9_same 108 = .ok (.aload_n 0, 1) := by decide +kernel
theorem dX9_same_109 : decode cX9_same 109 = .ok (.getfield 29, 3) := by decide +kernel
theorem dX9_same_112 : decode cX9_same 112 = .ok (.bipush 120, 2) := by decide +kernel
theorem dX9_same_114 : decode cX9_same 114 = .ok (.iload_n 1, 1) := by decide +kernel
theorem dX9_same_115 : decode cX9_same 115 = .ok (.imul, 1) := by decide +kernel
theorem dX9_same_116 : decode cX9_same 116 = .ok (.iload 5, 2) := by decide +kernel
theorem dX9_same_118 : decode cX9_same 118 = .ok (.iconst 3, 1) := by decide +kernel
theorem dX9_same_119 : decode cX9_same 119 = .ok (.irem, 1) := by decide +kernel
theorem dX9_same_120 : decode cX9_same 120 = .ok (.iadd, 1) := by decide +kernel
theorem dX9_same_121 : decode cX9_same 121 = .ok (.iaload, 1) := by decide +kernel
theorem dX9_same_122 : decode cX9_same 122 = .ok (.aload_n 0, 1) := by decide +kernel
theorem dX9_same_123 : decode cX9_same 123 = .ok (.getfield 29, 3) := by decide +kernel
theorem dX9_same_126 : decode cX9_same 126 = .ok (.bipush 120, 2) := by decide +kernel
theorem dX9_same_128 : decode cX9_same 128 = .ok (.iload_n 2, 1) := by decide +kernel
theorem dX9_same_129 : decode cX9_same 129 = .ok (.imul, 1) := by decide +kernel
theorem dX9_same_130 : decode cX9_same 130 = .ok (.iload 5, 2) := by decide +kernel
theorem dX9_same_132 : decode cX9_same 132 = .ok (.iconst 3, 1) := by decide +kernel
theorem dX9_same_133 : decode cX9_same 133 = .ok (.irem, 1) := by decide +kernel
theorem dX9_same_134 : decode cX9_same 134 = .ok (.iadd, 1) := by decide +kernel
theorem dX9_same_135 : decode cX9_same 135 = .ok (.iaload, 1) := by decide +kernel
theorem dX9_same_136 : decode cX9_same 136 = .ok (.isub, 1) := by decide +kernel
theorem dX9_same_137 : decode cX9_same 137 = .ok (.if_icmp .ne 7, 3) := by decide +kernel
theorem dX9_same_140 : decode cX9_same 140 = .ok (.iconst 1, 1) := by decide +kernel
theorem dX9_same_141 : decode cX9_same 141 = .ok (.goto 4, 3) := by decide +kernel
theorem dX9_same_144 : decode cX9_same 144 = .ok (.iconst 0, 1) := by decide +kernel
theorem dX9_same_145 : decode cX9_same 145 = .ok (.istore_n 3, 1) := by decide +kernel
theorem dX9_same_146 : decode cX9_same 146 = .ok (.iinc 5 1, 3) := by decide +kernel
theorem dX9_same_149 : decode cX9_same 149 = .ok (.goto (-104), 3) := by decide +kernel
theorem dX9_same_152 : decode cX9_same 152 = .ok (.iload 4, 2) := by decide +kernel
theorem dX9_same_154 : decode cX9_same 154 = .ok (.ifCond .eq 11, 3) := by decide +kernel
theorem dX9_same_157 : decode cX9_same 157 = .ok (.iload_n 3, 1) := by decide +kernel
theorem dX9_same_158 : decode cX9_same 158 = .ok (.ifCond .eq 7, 3) := by decide +kernel
theorem dX9_same_161 : decode cX9_same 161 = .ok (.iconst 2, 1) := by decide +kernel
theorem dX9_same_162 : decode cX9_same 162 = .ok (.goto 12, 3) := by decide +kernel
theorem dX9_same_165 : decode cX9_same 165 = .ok (.iload_n 3, 1) := by decide +kernel
theorem dX9_same_166 : decode cX9_same 166 = .ok (.ifCond .eq 7, 3) := by decide +kernel
theorem dX9_same_169 : decode cX9_same 169 = .ok (.iconst 1, 1) := by decide +kernel
theorem dX9_same_170 : decode cX9_same 170 = .ok (.goto 4, 3) := by decide +kernel
theorem dX9_same_173 : decode cX9_same 173 = .ok (.iconst 0, 1) := by decide +kernel
theorem dX9_same_174 : decode cX9_same 174 = .ok (.ireturn, 1) := by decide +kernel
set_option maxRecDepth 20000 in
theorem ggX9_most_X9_is : GoodIn wsX9_most wsX9_is := goodIn_r _ [10, 11, 12, 13, 9, 14, 15, 16, 17, 18, 19, 20, 21, 22, 23, 24, 25, 26, 27, 28, 29, 30, 31, 32, 33, 34, 35, 36, 37, 38] (by decide +kernel) (by decide +kernel)
set_option maxRecDepth 20000 in
theorem gX9_most_X9_is : GoodIn wsX9_most (wsV RX9 157 RX9 yX9_is wsX9_is) := goodIn_app (goodIn_of _ (by decide +kernel)) ggX9_most_X9_is
set_option maxRecDepth 20000 in
theorem ggX9_most_X9_in : GoodIn wsX9_most wsX9_in := goodIn_r _ [14] (by decide +kernel) (by decide +kernel)
set_option maxRecDepth 20000 in
theorem gX9_most_X9_in : GoodIn wsX9_most (va_wsS RX9 60 yX9_in wsX9_in) := goodIn_app (goodIn_of _ (by decide +kernel)) ggX9_most_X9_in
theorem dX9_most_0 : decode cX9_most 0 = .ok (.aload_n 0, 1) := by decide +kernel
theorem dX9_most_1 : decode cX9_most 1 = .ok (.iload_n 1, 1) := by decide +kernel
theorem dX9_most_2 : decode cX9_most 2 = .ok (.invokevirtual 157, 3) := by decide +kernel
theorem dX9_most_5 : decode cX9_most 5 = .ok (.ifCond .eq 46, 3) := by decide +kernel
theorem dX9_most_8 : decode cX9_most 8 = .ok (.iload_n 2, 1) := by decide +kernel
theorem dX9_most_9 : decode cX9_most 9 = .ok (.i2l, 1) := by decide +kernel
theorem dX9_most_10 : decode cX9_most 10 = .ok (.ldc2_w 209, 3) := by decide +kernel
theorem dX9_most_13 : decode cX9_most 13 = .ok (.ldc2_w 211, 3) := by decide +kernel
theorem dX9_most_16 : decode cX9_most 16 = .ok (.invokestatic 60, 3) := by decide +kernel
theorem dX9_most_19 : decode cX9_most 19 = .ok (.ifCond .eq 32, 3) := by decide +kernel
theorem dX9_most_22 : decode cX9_most 22 = .ok (.iload_n 3, 1) := by decide +kernel
theorem dX9_most_23 : decode cX9_most 23 = .ok (.i2l, 1) := by decide +kernel
theorem dX9_most_24 : decode cX9_most 24 = .ok (.ldc2_w 209, 3) := by decide +kernel
theorem dX9_most_27 : decode cX9_most 27 = .ok (.ldc2_w 211, 3) := by decide +kernel
theorem dX9_most_30 : decode cX9_most 30 = .ok (.invokestatic 60, 3) := by decide +kernel
theorem dX9_most_33 : decode cX9_most 33 = .ok (.ifCond .eq 18, 3) := by decide +kernel
theorem dX9_most_36 : decode cX9_most 36 = .ok (.iload 4, 2) := by decide +kernel
theorem dX9_most_38 : decode cX9_most 38 = .ok (.i2l, 1) := by decide +kernel
theorem dX9_most_39 : decode cX9_most 39 = .ok (.ldc2_w 209, 3) := by decide +kernel
theorem dX9_most_42 : decode cX9_most 42 = .ok (.ldc2_w 211, 3) := by decide +kernel
theorem dX9_most_45 : decode cX9_most 45 = .ok (.invokestatic 60, 3) := by decide +kernel
theorem dX9_most_48 : decode cX9_most 48 = .ok (.ifCond .ne 6, 3) := by decide +kernel
theorem dX9_most_51 : decode cX9_most 51 = .ok (.ldc 177, 2) := by decide +kernel
theorem dX9_most_53 : decode cX9_most 53 = .ok (.ireturn, 1) := by decide +kernel
theorem dX9_most_54 : decode cX9_most 54 = .ok (.iconst 0, 1) := by decide +kernel
theorem dX9_most_55 : decode cX9_most 55 = .ok (.istore 6, 2) := by decide +kernel
theorem dX9_most_57 : decode cX9_most 57 = .ok (.iconst 0, 1) := by decide +kernel
theorem dX9_most_58 : decode cX9_most 58 = .ok (.istore 7, 2) := by decide +kernel
theorem dX9_most_60 : decode cX9_most 60 = .ok (.iload 7, 2) := by decide +kernel
theorem dX9_most_62 : decode cX9_most 62 = .ok (.aload_n 0, 1) := by decide +kernel
theorem dX9_most_63 : decode cX9_most 63 = .ok (.getfield 26, 3) := by decide +kernel
theorem dX9_most_66 : decode cX9_most 66 = .ok (.iload_n 1, 1) := by decide +kernel
theorem dX9_most_67 : decode cX9_most 67 = .ok (.iaload, 1) := by decide +kernel
theorem dX9_most_68 : decode cX9_most 68 = .ok (.if_icmp .ge 92, 3) := by decide +kernel
theorem dX9_most_71 : decode cX9_most 71 = .ok (.bipush 120, 2) := by decide +kernel
theorem dX9_most_73 : decode cX9_most 73 = .ok (.iload_n 1, 1) := by decide +kernel
theorem dX9_most_74 : decode cX9_most 74 = .ok (.imul, 1) := by decide +kernel
theorem dX9_most_75 : decode cX9_most 75 = .ok (.iconst 3, 1) := by decide +kernel
theorem dX9_most_76 : decode cX9_most 76 = .ok (.iload 7, 2) := by decide +kernel
theorem dX9_most_78 : decode cX9_most 78 = .ok (.imul, 1) := by decide +kernel
theorem dX9_most_79 : decode cX9_most 79 = .ok (.iadd, 1) := by decide +kernel
theorem dX9_most_80 : decode cX9_most 80 = .ok (.istore 8, 2) := by decide +kernel
theorem dX9_most_82 : decode cX9_most 82 = .ok (.iload_n 2, 1) := by decide +kernel
theorem dX9_most_83 : decode cX9_most 83 = .ok (.aload_n 0, 1) := by decide +kernel
theorem dX9_most_84 : decode cX9_most 84 = .ok (.getfield 29, 3) := by decide +kernel
theorem dX9_most_87 : decode cX9_most 87 = .ok (.iload 8, 2) := by decide +kernel
theorem dX9_most_89 : decode cX9_most 89 = .ok (.iaload, 1) := by decide +kernel
theorem dX9_most_90 : decode cX9_most 90 = .ok (.imul, 1) := by decide +kernel
theorem dX9_most_91 : decode cX9_most 91 = .ok (.iload_n 3, 1) := by decide +kernel
theorem dX9_most_92 : decode cX9_most 92 = .ok (.aload_n 0, 1) := by decide +kernel
theorem dX9_most_93 : decode cX9_most 93 = .ok (.getfield 29, 3) := by decide +kernel
theorem dX9_most_96 : decode cX9_most 96 = .ok (.iload 8, 2) := by decide +kernel
theorem dX9_most_98 : decode cX9_most 98 = .ok (.iconst 1, 1) := by decide +kernel
theorem dX9_most_99 : decode cX9_most 99 = .ok (.iadd, 1) := by decide +kernel
theorem dX9_most_100 : decode cX9_most 100 = .ok (.iaload, 1) := by decide +kernel
theorem dX9_most_101 : decode cX9_most 101 = .ok (.imul, 1) := by decide +kernel
theorem dX9_most_102 : decode cX9_most 102 = .ok (.iadd, 1) := by decide +kernel
theorem dX9_most_103 : decode cX9_most 103 = .ok (.iload 4, 2) := by decide +kernel
theorem dX9_most_105 : decode cX9_most 105 = .ok (.aload_n 0, 1) := by decide +kernel
theorem dX9_most_106 : decode cX9_most 106 = .ok (.getfield 29, 3) := by decide +kernel
theorem dX9_most_109 : decode cX9_most 109 = .ok (.iload 8, 2) := by decide +kernel
theorem dX9_most_111 : decode cX9_most 111 = .ok (.iconst 2, 1) := by decide +kernel
theorem dX9_most_112 : decode cX9_most 112 = .ok (.iadd, 1) := by decide +kernel
theorem dX9_most_113 : decode cX9_most 113 = .ok (.iaload, 1) := by decide +kernel
theorem dX9_most_114 : decode cX9_most 114 = .ok (.imul, 1) := by decide +kernel
theorem dX9_most_115 : decode cX9_most 115 = .ok (.iadd, 1) := by decide +kernel
theorem dX9_most_116 : decode cX9_most 116 = .ok (.istore 9, 2) := by decide +kernel
theorem dX9_most_118 : decode cX9_most 118 = .ok (.iload 7, 2) := by decide +kernel
theorem dX9_most_120 : decode cX9_most 120 = .ok (.ifCond .eq 25, 3) := by decide +kernel
theorem dX9_most_123 : decode cX9_most 123 = .ok (.iload 5, 2) := by decide +kernel
theorem dX9_most_125 : decode cX9_most 125 = .ok (.ifCond .eq 13, 3) := by decide +kernel
theorem dX9_most_128 : decode cX9_most 128 = .ok (.iload 9, 2) := by decide +kernel
theorem dX9_most_130 : decode cX9_most 130 = .ok (.iload 6, 2) := by decide +kernel
theorem dX9_most_132 : decode cX9_most 132 = .ok (.if_icmp .le 18, 3) := by decide +kernel
theorem dX9_most_135 : decode cX9_most 135 = .ok (.goto 10, 3) := by decide +kernel
theorem dX9_most_138 : decode cX9_most 138 = .ok (.iload 9, 2) := by decide +kernel
theorem dX9_most_140 : decode cX9_most 140 = .ok (.iload 6, 2) := by decide +kernel
theorem dX9_most_142 : decode cX9_most 142 = .ok (.if_icmp .ge 8, 3) := by decide +kernel
theorem dX9_most_145 : decode cX9_most 145 = .ok (.iload 9, 2) := by decide +kernel
theorem dX9_most_147 : decode cX9_most 147 = .ok (.goto 5, 3) := by decide +kernel
theorem dX9_most_150 : decode cX9_most 150 = .ok (.iload 6, 2) := by decide +kernel
theorem dX9_most_152 : decode cX9_most 152 = .ok (.istore 6, 2) := by decide +kernel
theorem dX9_most_154 : decode cX9_most 154 = .ok (.iinc 7 1, 3) := by decide +kernel
theorem dX9_most_157 : decode cX9_most 157 = .ok (.goto (-97), 3) := by decide +kernel
theorem dX9_most_160 : decode cX9_most 160 = .ok (.iload 6, 2) := by decide +kernel
theorem dX9_most_162 : decode cX9_most 162 = .ok (.ireturn, 1) := by decide +kernel
theorem dX9_all_0 : decode cX9_all 0 = .ok (.iload_n 1, 1) := by decide +kernel
theorem dX9_all_1 : decode cX9_all 1 = .ok (.tableswitch 60 0 2 #[27, 32, 37], 27) := by decide +kernel
theorem dX9_all_28 : decode cX9_all 28 = .ok (.aload_n 0, 1) := by decide +kernel
theorem dX9_all_29 : decode cX9_all 29 = .ok (.getfield 124, 3) := by decide +kernel
theorem dX9_all_32 : decode cX9_all 32 = .ok (.ireturn, 1) := by decide +kernel
theorem dX9_all_33 : decode cX9_all 33 = .ok (.aload_n 0, 1) := by decide +kernel
theorem dX9_all_34 : decode cX9_all 34 = .ok (.getfield 64, 3) := by decide +kernel
theorem dX9_all_37 : decode cX9_all 37 = .ok (.ireturn, 1) := by decide +kernel
theorem dX9_all_38 : decode cX9_all 38 = .ok (.aload_n 0, 1) := by decide +kernel
theorem dX9_all_39 : decode cX9_all 39 = .ok (.getfield 13, 3) := by decide +kernel
theorem dX9_all_42 : decode cX9_all 42 = .ok (.iconst 0, 1) := by decide +kernel
theorem dX9_all_43 : decode cX9_all 43 = .ok (.iaload, 1) := by decide +kernel
theorem dX9_all_44 : decode cX9_all 44 = .ok (.bipush (-4), 2) := by decide +kernel
theorem dX9_all_46 : decode cX9_all 46 = .ok (.if_icmp .ne 8, 3) := by decide +kernel
theorem dX9_all_49 : decode cX9_all 49 = .ok (.bipush (-4), 2) := by decide +kernel
theorem dX9_all_51 : decode cX9_all 51 = .ok (.goto 9, 3) := by decide +kernel
theorem dX9_all_54 : decode cX9_all 54 = .ok (.aload_n 0, 1) := by decide +kernel
theorem dX9_all_55 : decode cX9_all 55 = .ok (.getfield 16, 3) := by decide +kernel
theorem dX9_all_58 : decode cX9_all 58 = .ok (.iconst 0, 1) := by decide +kernel
theorem dX9_all_59 : decode cX9_all 59 = .ok (.iaload, 1) := by decide +kernel
theorem dX9_all_60 : decode cX9_all 60 = .ok (.ireturn, 1) := by decide +kernel
theorem dX9_all_61 : decode cX9_all 61 = .ok (.iconst (-1), 1) := by decide +kernel
theorem dX9_all_62 : decode cX9_all 62 = .ok (.ireturn, 1) := by decide +kernel
theorem dJ9_floorDiv_7cf53_0 : decode cJ9_floorDiv_7cf53 0 = .ok (.iload_n 0, 1) := by decide +kernel
theorem dJ9_floorDiv_7cf53_1 : decode cJ9_floorDiv_7cf53 1 = .ok (.iload_n 1, 1) := by decide +kernel
theorem dJ9_floorDiv_7cf53_2 : decode cJ9_floorDiv_7cf53 2 = .ok (.idiv, 1) := by decide +kernel
theorem dJ9_floorDiv_7cf53_3 : decode cJ9_floorDiv_7cf53 3 = .ok (.istore_n 2, 1) := by decide +kernel
theorem dJ9_floorDiv_7cf53_4 : decode cJ9_floorDiv_7cf53 4 = .ok (.iload_n 0, 1) := by decide +kernel
theorem dJ9_floorDiv_7cf53_5 : decode cJ9_floorDiv_7cf53 5 = .ok (.iload_n 1, 1) := by decide +kernel
theorem dJ9_floorDiv_7cf53_6 : decode cJ9_floorDiv_7cf53 6 = .ok (.ixor, 1) := by decide +kernel
theorem dJ9_floorDiv_7cf53_7 : decode cJ9_floorDiv_7cf53 7 = .ok (.ifCond .ge 14, 3) := by decide +kernel
theorem dJ9_floorDiv_7cf53_10 : decode cJ9_floorDiv_7cf53 10 = .ok (.iload_n 2, 1) := by decide +kernel
theorem dJ9_floorDiv_7cf53_11 : decode cJ9_floorDiv_7cf53 11 = .ok (.iload_n 1, 1) := by decide +kernel
theorem dJ9_floorDiv_7cf53_12 : decode cJ9_floorDiv_7cf53 12 = .ok (.imul, 1) := by decide +kernel
theorem dJ9_floorDiv_7cf53_13 : decode cJ9_floorDiv_7cf53 13 = .ok (.iload_n 0, 1) := by decide +kernel
theorem dJ9_floorDiv_7cf53_14 : decode cJ9_floorDiv_7cf53 14 = .ok (.if_icmp .eq 7, 3) := by decide +kernel
theorem dJ9_floorDiv_7cf53_17 : decode cJ9_floorDiv_7cf53 17 = .ok (.iload_n 2, 1) := by decide +kernel
theorem dJ9_floorDiv_7cf53_18 : decode cJ9_floorDiv_7cf53 18 = .ok (.iconst 1, 1) := by decide +kernel
theorem dJ9_floorDiv_7cf53_19 : decode cJ9_floorDiv_7cf53 19 = .ok (.isub, 1) := by decide +kernel
theorem dJ9_floorDiv_7cf53_20 : decode cJ9_floorDiv_7cf53 20 = .ok (.ireturn, 1) := by decide +kernel
theorem dJ9_floorDiv_7cf53_21 : decode cJ9_floorDiv_7cf53 21 = .ok (.iload_n 2, 1) := by decide +kernel
theorem dJ9_floorDiv_7cf53_22 : decode cJ9_floorDiv_7cf53 22 = .ok (.ireturn, 1) := by decide +kernel
theorem dJ9_abs_0f7a4_0 : decode cJ9_abs_0f7a4 0 = .ok (.iload_n 0, 1) := by decide +kernel
theorem dJ9_abs_0f7a4_1 : decode cJ9_abs_0f7a4 1 = .ok (.ifCond .ge 8, 3) := by decide +kernel
theorem dJ9_abs_0f7a4_4 : decode cJ9_abs_0f7a4 4 = .ok (.iload_n 0, 1) := by decide +kernel
theorem dJ9_abs_0f7a4_5 : decode cJ9_abs_0f7a4 5 = .ok (.ineg, 1) := by decide +kernel
theorem dJ9_abs_0f7a4_6 : decode cJ9_abs_0f7a4 6 = .ok (.goto 4, 3) := by decide +kernel
theorem dJ9_abs_0f7a4_9 : decode cJ9_abs_0f7a4 9 = .ok (.iload_n 0, 1) := by decide +kernel
theorem dJ9_abs_0f7a4_10 : decode cJ9_abs_0f7a4 10 = .ok (.ireturn, 1) := by decide +kernel
theorem dJ9_max_7cf53_0 : decode cJ9_max_7cf53 0 = .ok (.iload_n 0, 1) := by decide +kernel
theorem dJ9_max_7cf53_1 : decode cJ9_max_7cf53 1 = .ok (.iload_n 1, 1) := by decide +kernel
theorem dJ9_max_7cf53_2 : decode cJ9_max_7cf53 2 = .ok (.if_icmp .lt 7, 3) := by decide +kernel
theorem dJ9_max_7cf53_5 : decode cJ9_max_7cf53 5 = .ok (.iload_n 0, 1) := by decide +kernel
theorem dJ9_max_7cf53_6 : decode cJ9_max_7cf53 6 = .ok (.goto 4, 3) := by decide +kernel
theorem dJ9_max_7cf53_9 : decode cJ9_max_7cf53 9 = .ok (.iload_n 1, 1) := by decide +kernel
theorem dJ9_max_7cf53_10 : decode cJ9_max_7cf53 10 = .ok (.ireturn, 1) := by decide +kernel
theorem dJ9_min_7cf53_0 : decode cJ9_min_7cf53 0 = .ok (.iload_n 0, 1) := by decide +kernel
theorem dJ9_min_7cf53_1 : decode cJ9_min_7cf53 1 = .ok (.iload_n 1, 1) := by decide +kernel
theorem dJ9_min_7cf53_2 : decode cJ9_min_7cf53 2 = .ok (.if_icmp .gt 7, 3) := by decide +kernel
theorem dJ9_min_7cf53_5 : decode cJ9_min_7cf53 5 = .ok (.iload_n 0, 1) := by decide +kernel
theorem dJ9_min_7cf53_6 : decode cJ9_min_7cf53 6 = .ok (.goto 4, 3) := by decide +kernel
theorem dJ9_min_7cf53_9 : decode cJ9_min_7cf53 9 = .ok (.iload_n 1, 1) := by decide +kernel
theorem dJ9_min_7cf53_10 : decode cJ9_min_7cf53 10 = .ok (.ireturn, 1) := by decide +kernel
set_option maxRecDepth 20000 in
theorem ggL_law_X8_init : GoodIn wsL_law wsX8_init := goodIn_r _ [9, 10, 11, 12, 13, 14, 15, 16, 17, 18, 19, 20, 21, 22, 23, 24, 25, 26, 27, 28, 29, 30, 31, 32, 33, 34, 35, 36, 37, 38, 39, 40, 41, 42, 43, 44, 45, 46, 47, 48, 49, 50, 51, 52, 53, 54, 55, 56, 57, 58, 59, 60, 61, 62, 63, 64, 65, 66, 67, 68, 69, 70, 71, 72, 73, 74, 879, 880, 881, 882, 850, 851, 852, 853, 854, 883, 884, 885, 886, 887, 888, 889, 890, 891, 892, 893, 894, 895, 896, 897, 898, 899, 900, 901] (by decide +kernel) (by decide +kernel)
set_option maxRecDepth 20000 in
theorem gL_law_X8_init : GoodIn wsL_law (wsX8_init) := ggL_law_X8_init
set_option maxRecDepth 20000 in
theorem ggL_law_X9_init : GoodIn wsL_law wsX9_init := goodIn_r _ [77, 78, 11, 12, 35, 79, 80, 81, 72, 82, 83, 84, 85, 86, 87, 88, 89, 90, 91, 92, 93, 855, 856, 857, 858, 859, 860, 861, 862, 863, 864, 865, 866, 867, 868, 869, 870, 871, 872, 873, 874, 875, 876, 877, 878] (by decide +kernel) (by decide +kernel)
set_option maxRecDepth 20000 in
theorem gL_law_X9_init : GoodIn wsL_law (wsX9_init) := ggL_law_X9_init
set_option maxRecDepth 20000 in
theorem ggL_law_X8_corner : GoodIn wsL_law wsX8_corner := goodIn_r _ [97, 16, 98, 99, 100, 2, 101, 102, 103, 104, 105, 106, 107, 15, 108, 109, 36, 37, 38, 850, 851, 852, 853, 854, 879, 880, 881, 882] (by decide +kernel) (by decide +kernel)
set_option maxRecDepth 20000 in
theorem gL_law_X8_corner : GoodIn wsL_law (wsV RL 13 RX8 yX8_corner wsX8_corner) := goodIn_app (goodIn_of _ (by decide +kernel)) ggL_law_X8_corner
set_option maxRecDepth 20000 in
theorem ggL_law_X9_corner : GoodIn wsL_law wsX9_corner := goodIn_r _ [113, 114, 115, 116, 117, 118, 5, 119, 120, 121, 122, 123, 79, 855, 856, 857, 858, 859, 860, 861, 862, 863, 864, 865, 866, 867, 868, 869, 870, 871, 872, 873, 874, 875, 876, 877, 878] (by decide +kernel) (by decide +kernel)
set_option maxRecDepth 20000 in
theorem gL_law_X9_corner : GoodIn wsL_law (wsV RL 17 RX9 yX9_corner wsX9_corner) := goodIn_app (goodIn_of _ (by decide +kernel)) ggL_law_X9_corner
set_option maxRecDepth 20000 in
theorem ggL_law_X8_sheaf : GoodIn wsL_law wsX8_sheaf := goodIn_r _ [127, 18, 128, 129, 2, 130, 131, 132, 133, 134, 135, 136, 26, 137, 74, 138, 73, 850, 851, 852, 853, 854, 891, 892, 893] (by decide +kernel) (by decide +kernel)
set_option maxRecDepth 20000 in
theorem gL_law_X8_sheaf : GoodIn wsL_law (wsV RL 18 RX8 yX8_sheaf wsX8_sheaf) := goodIn_app (goodIn_of _ (by decide +kernel)) ggL_law_X8_sheaf
set_option maxRecDepth 20000 in
theorem ggL_law_X9_sheaf : GoodIn wsL_law wsX9_sheaf := goodIn_r _ [142, 143, 80, 81, 82, 117, 118, 5, 119, 855, 856, 857, 858, 859, 860, 861, 862, 863, 864, 865, 866, 867, 868, 869, 870, 871, 872, 873, 874, 875, 876, 877, 878] (by decide +kernel) (by decide +kernel)
set_option maxRecDepth 20000 in
theorem gL_law_X9_sheaf : GoodIn wsL_law (wsV RL 21 RX9 yX9_sheaf wsX9_sheaf) := goodIn_app (goodIn_of _ (by decide +kernel)) ggL_law_X9_sheaf
set_option maxRecDepth 20000 in
theorem ggL_law_X8_lay : GoodIn wsL_law wsX8_lay := goodIn_r _ [147, 18, 148, 149, 128, 129, 2, 130, 150, 151, 152, 26, 153, 138, 73, 74, 850, 851, 852, 853, 854, 891, 892, 893] (by decide +kernel) (by decide +kernel)
set_option maxRecDepth 20000 in
theorem gL_law_X8_lay : GoodIn wsL_law (wsV RL 24 RX8 yX8_lay wsX8_lay) := goodIn_app (goodIn_of _ (by decide +kernel)) ggL_law_X8_lay
set_option maxRecDepth 20000 in
theorem ggL_law_X9_lay : GoodIn wsL_law wsX9_lay := goodIn_r _ [157, 143, 80, 81, 82, 117, 118, 5, 119, 855, 856, 857, 858, 859, 860, 861, 862, 863, 864, 865, 866, 867, 868, 869, 870, 871, 872, 873, 874, 875, 876, 877, 878] (by decide +kernel) (by decide +kernel)
set_option maxRecDepth 20000 in
theorem gL_law_X9_lay : GoodIn wsL_law (wsV RL 28 RX9 yX9_lay wsX9_lay) := goodIn_app (goodIn_of _ (by decide +kernel)) ggL_law_X9_lay
set_option maxRecDepth 20000 in
theorem ggL_law_X8_draw : GoodIn wsL_law wsX8_draw := goodIn_r _ [161, 18, 148, 16, 98, 128, 129, 2, 130, 131, 132, 133, 162, 163, 164, 165, 149, 166, 167, 168, 26, 169, 138, 73, 99, 100, 101, 102, 103, 104, 105, 106, 107, 15, 108, 109, 36, 37, 38, 850, 851, 852, 853, 854, 891, 892, 893, 879, 880, 881, 882] (by decide +kernel) (by decide +kernel)
set_option maxRecDepth 20000 in
theorem gL_law_X8_draw : GoodIn wsL_law (wsV RL 29 RX8 yX8_draw wsX8_draw) := goodIn_app (goodIn_of _ (by decide +kernel)) ggL_law_X8_draw
set_option maxRecDepth 20000 in
theorem ggL_law_X9_draw : GoodIn wsL_law wsX9_draw := goodIn_r _ [173, 143, 80, 116, 81, 82, 114, 115, 117, 118, 5, 119, 120, 121, 122, 123, 79, 855, 856, 857, 858, 859, 860, 861, 862, 863, 864, 865, 866, 867, 868, 869, 870, 871, 872, 873, 874, 875, 876, 877, 878] (by decide +kernel) (by decide +kernel)
set_option maxRecDepth 20000 in
theorem gL_law_X9_draw : GoodIn wsL_law (wsV RL 32 RX9 yX9_draw wsX9_draw) := goodIn_app (goodIn_of _ (by decide +kernel)) ggL_law_X9_draw
set_option maxRecDepth 20000 in
theorem ggL_law_X8_clear : GoodIn wsL_law wsX8_clear := goodIn_r _ [177, 16, 98, 850, 851, 852, 853, 854, 879, 880, 881, 882] (by decide +kernel) (by decide +kernel)
set_option maxRecDepth 20000 in
theorem gL_law_X8_clear : GoodIn wsL_law (wsV RL 33 RX8 yX8_clear wsX8_clear) := goodIn_app (goodIn_of _ (by decide +kernel)) ggL_law_X8_clear
set_option maxRecDepth 20000 in
theorem ggL_law_X9_clear : GoodIn wsL_law wsX9_clear := goodIn_r _ [181, 116, 855, 856, 857, 858, 859, 860, 861, 862, 863, 864, 865, 866, 867, 868, 869, 870, 871, 872, 873, 874, 875, 876, 877, 878] (by decide +kernel) (by decide +kernel)
set_option maxRecDepth 20000 in
theorem gL_law_X9_clear : GoodIn wsL_law (wsV RL 37 RX9 yX9_clear wsX9_clear) := goodIn_app (goodIn_of _ (by decide +kernel)) ggL_law_X9_clear
set_option maxRecDepth 20000 in
theorem ggL_law_X8_body : GoodIn wsL_law wsX8_body := goodIn_r _ [185, 16, 98, 186, 24, 187, 188, 189, 23, 190, 43, 191, 192, 193, 194, 195, 196, 197, 198, 199, 106, 107, 15, 108, 109, 36, 37, 38, 200, 201, 202, 2, 203, 20, 204, 205, 206, 207, 47, 208, 48, 209, 210, 211, 212, 213, 214, 215, 216, 217, 218, 219, 220, 221, 222, 223, 224, 225, 226, 227, 228, 229, 230, 231, 232, 233, 234, 235, 236, 237, 238, 239, 240, 52, 53, 54, 241, 242, 243, 51, 244, 245, 246, 247, 248, 249, 250, 251, 252, 253, 254, 255, 256, 257, 258, 259, 260, 261, 262, 263, 264, 265, 266, 267, 268, 269, 270, 271, 272, 273, 274, 275, 276, 46, 277, 278, 279, 280, 281, 282, 62, 63, 64, 65, 283, 284, 285, 286, 287, 288, 33, 289, 290, 291, 292, 293, 294, 295, 296, 297, 298, 299, 300, 55, 301, 302, 303, 304, 305, 306, 307, 308, 309, 310, 311, 312, 313, 314, 315, 316, 317, 318, 319, 320, 321, 322, 323, 324, 325, 326, 327, 328, 329, 330, 331, 332, 333, 334, 335, 336, 337, 338, 339, 340, 341, 342, 343, 344, 345, 346, 347, 348, 14, 349, 350, 351, 352, 353, 28, 29, 30, 11, 12, 31, 32, 34, 35, 354, 355, 356, 357, 358, 45, 359, 360, 58, 59, 60, 61, 361, 362, 363, 364, 365, 366, 367, 368, 369, 370, 371, 372, 373, 374, 375, 376, 377, 378, 379, 380, 381, 382, 850, 851, 852, 853, 854, 879, 880, 881, 882, 883, 884, 885, 886, 887, 888, 889, 890, 894, 895, 896, 897, 898, 902, 903, 904, 905, 906, 907, 908, 909, 910, 899, 900, 901] (by decide +kernel) (by decide +kernel)
set_option maxRecDepth 20000 in
theorem gL_law_X8_body : GoodIn wsL_law (wsV RL 38 RX8 yX8_body wsX8_body) := goodIn_app (goodIn_of _ (by decide +kernel)) ggL_law_X8_body
set_option maxRecDepth 20000 in
theorem ggL_law_X9_body : GoodIn wsL_law wsX9_body := goodIn_r _ [386, 116, 387, 388, 79, 389, 390, 391, 5, 392, 90, 91, 92, 393, 394, 395, 396, 397, 398, 399, 400, 83, 86, 89, 401, 402, 403, 84, 85, 88, 404, 405, 406, 407, 408, 409, 410, 411, 412, 413, 414, 415, 416, 417, 418, 419, 420, 421, 422, 423, 424, 425, 426, 427, 428, 429, 430, 431, 432, 433, 434, 435, 436, 437, 438, 87, 439, 440, 441, 442, 443, 444, 445, 446, 447, 448, 449, 450, 855, 856, 857, 858, 859, 860, 861, 862, 863, 864, 865, 866, 867, 868, 869, 870, 871, 872, 873, 874, 875, 876, 877, 878] (by decide +kernel) (by decide +kernel)
set_option maxRecDepth 20000 in
theorem gL_law_X9_body : GoodIn wsL_law (wsV RL 41 RX9 yX9_body wsX9_body) := goodIn_app (goodIn_of _ (by decide +kernel)) ggL_law_X9_body
set_option maxRecDepth 20000 in
theorem ggL_law_X8_drop : GoodIn wsL_law wsX8_drop := goodIn_r _ [454, 186, 20, 850, 851, 852, 853, 854] (by decide +kernel) (by decide +kernel)
set_option maxRecDepth 20000 in
theorem gL_law_X8_drop : GoodIn wsL_law (wsV RL 42 RX8 yX8_drop wsX8_drop) := goodIn_app (goodIn_of _ (by decide +kernel)) ggL_law_X8_drop
set_option maxRecDepth 20000 in
theorem ggL_law_X9_drop : GoodIn wsL_law wsX9_drop := goodIn_r _ [458, 387, 855, 856, 857, 858, 859, 860, 861, 862, 863, 864, 865, 866, 867, 868, 869, 870, 871, 872, 873, 874, 875, 876, 877, 878] (by decide +kernel) (by decide +kernel)
set_option maxRecDepth 20000 in
theorem gL_law_X9_drop : GoodIn wsL_law (wsV RL 45 RX9 yX9_drop wsX9_drop) := goodIn_app (goodIn_of _ (by decide +kernel)) ggL_law_X9_drop
set_option maxRecDepth 20000 in
theorem ggL_law_X8_about : GoodIn wsL_law wsX8_about := goodIn_r _ [462, 463, 464, 98, 465, 466, 467, 468, 469, 470, 2, 471, 186, 20, 472, 473, 474, 211, 475, 371, 374, 369, 476, 477, 478, 479, 365, 366, 379, 380, 381, 15, 382, 109, 36, 37, 38, 480, 481, 482, 483, 902, 903, 904, 905, 906, 907, 908, 909, 910, 879, 880, 881, 882, 894, 895, 896, 897, 898, 850, 851, 852, 853, 854] (by decide +kernel) (by decide +kernel)
set_option maxRecDepth 20000 in
theorem gL_law_X8_about : GoodIn wsL_law (wsV RL 46 RX8 yX8_about wsX8_about) := goodIn_app (goodIn_of _ (by decide +kernel)) ggL_law_X8_about
set_option maxRecDepth 20000 in
theorem ggL_law_X9_about : GoodIn wsL_law wsX9_about := goodIn_r _ [487, 84, 83, 86, 88, 488, 489, 490, 5, 491, 387, 117, 118, 119, 492, 493, 494, 495, 85, 496, 497, 498, 499, 500, 501, 502, 503, 504, 505, 506, 507, 855, 856, 857, 858, 859, 860, 861, 862, 863, 864, 865, 866, 867, 868, 869, 870, 871, 872, 873, 874, 875, 876, 877, 878] (by decide +kernel) (by decide +kernel)
set_option maxRecDepth 20000 in
theorem gL_law_X9_about : GoodIn wsL_law (wsV RL 50 RX9 yX9_about wsX9_about) := goodIn_app (goodIn_of _ (by decide +kernel)) ggL_law_X9_about
set_option maxRecDepth 20000 in
theorem ggL_law_X8_cornerOf : GoodIn wsL_law wsX8_cornerOf := goodIn_r _ [511, 464, 98, 468, 469, 470, 2, 471, 186, 20, 512, 513, 514, 515, 380, 381, 15, 382, 109, 36, 37, 38, 902, 903, 904, 905, 906, 907, 908, 909, 910, 879, 880, 881, 882, 850, 851, 852, 853, 854] (by decide +kernel) (by decide +kernel)
set_option maxRecDepth 20000 in
theorem gL_law_X8_cornerOf : GoodIn wsL_law (wsV RL 51 RX8 yX8_cornerOf wsX8_cornerOf) := goodIn_app (goodIn_of _ (by decide +kernel)) ggL_law_X8_cornerOf
set_option maxRecDepth 20000 in
theorem ggL_law_X9_cornerOf : GoodIn wsL_law wsX9_cornerOf := goodIn_r _ [519, 84, 520, 85, 488, 489, 490, 5, 491, 387, 117, 118, 119, 855, 856, 857, 858, 859, 860, 861, 862, 863, 864, 865, 866, 867, 868, 869, 870, 871, 872, 873, 874, 875, 876, 877, 878] (by decide +kernel) (by decide +kernel)
set_option maxRecDepth 20000 in
theorem gL_law_X9_cornerOf : GoodIn wsL_law (wsV RL 54 RX9 yX9_cornerOf wsX9_cornerOf) := goodIn_app (goodIn_of _ (by decide +kernel)) ggL_law_X9_cornerOf
set_option maxRecDepth 20000 in
theorem ggL_law_X8_side : GoodIn wsL_law wsX8_side := goodIn_r _ [524, 463, 525, 465, 466, 468, 469, 470, 2, 471, 186, 20, 526, 527, 528, 46, 529, 278, 62, 63, 64, 65, 902, 903, 904, 905, 906, 907, 908, 909, 910, 894, 895, 896, 897, 898, 850, 851, 852, 853, 854] (by decide +kernel) (by decide +kernel)
set_option maxRecDepth 20000 in
theorem gL_law_X8_side : GoodIn wsL_law (wsV RL 55 RX8 yX8_side wsX8_side) := goodIn_app (goodIn_of _ (by decide +kernel)) ggL_law_X8_side
set_option maxRecDepth 20000 in
theorem ggL_law_X9_side_ : GoodIn wsL_law wsX9_side_ := goodIn_r _ [533, 143, 83, 89, 86, 87, 488, 489, 490, 5, 491, 387, 117, 118, 119, 855, 856, 857, 858, 859, 860, 861, 862, 863, 864, 865, 866, 867, 868, 869, 870, 871, 872, 873, 874, 875, 876, 877, 878] (by decide +kernel) (by decide +kernel)
set_option maxRecDepth 20000 in
theorem gL_law_X9_side_ : GoodIn wsL_law (wsV RL 58 RX9 yX9_side_ wsX9_side_) := goodIn_app (goodIn_of _ (by decide +kernel)) ggL_law_X9_side_
set_option maxRecDepth 20000 in
theorem ggL_law_X8_on : GoodIn wsL_law wsX8_on := goodIn_r _ [537, 465, 466, 468, 469, 470, 2, 471, 186, 20, 538, 539, 540, 211, 541, 371, 374, 372, 542, 543, 544, 545, 340, 341, 46, 342, 62, 63, 64, 65, 902, 903, 904, 905, 906, 907, 908, 909, 910, 894, 895, 896, 897, 898, 850, 851, 852, 853, 854, 879, 880, 881, 882] (by decide +kernel) (by decide +kernel)
set_option maxRecDepth 20000 in
theorem gL_law_X8_on : GoodIn wsL_law (wsV RL 59 RX8 yX8_on wsX8_on) := goodIn_app (goodIn_of _ (by decide +kernel)) ggL_law_X8_on
set_option maxRecDepth 20000 in
theorem ggL_law_X9_on : GoodIn wsL_law wsX9_on := goodIn_r _ [549, 86, 84, 85, 488, 489, 490, 5, 491, 387, 117, 118, 119, 447, 448, 449, 450, 87, 855, 856, 857, 858, 859, 860, 861, 862, 863, 864, 865, 866, 867, 868, 869, 870, 871, 872, 873, 874, 875, 876, 877, 878] (by decide +kernel) (by decide +kernel)
set_option maxRecDepth 20000 in
theorem gL_law_X9_on : GoodIn wsL_law (wsV RL 62 RX9 yX9_on wsX9_on) := goodIn_app (goodIn_of _ (by decide +kernel)) ggL_law_X9_on
set_option maxRecDepth 20000 in
theorem ggL_law_X8_has : GoodIn wsL_law wsX8_has := goodIn_r _ [553, 554, 468, 469, 470, 2, 471, 186, 20, 102, 103, 104, 555, 556, 557, 211, 558, 373, 559, 372, 545, 340, 341, 46, 342, 62, 63, 64, 65, 850, 851, 852, 853, 854, 902, 903, 904, 905, 906, 907, 908, 909, 910, 894, 895, 896, 897, 898] (by decide +kernel) (by decide +kernel)
set_option maxRecDepth 20000 in
theorem gL_law_X8_has : GoodIn wsL_law (wsV RL 63 RX8 yX8_has wsX8_has) := goodIn_app (goodIn_of _ (by decide +kernel)) ggL_law_X8_has
set_option maxRecDepth 20000 in
theorem ggL_law_X9_has : GoodIn wsL_law wsX9_has := goodIn_r _ [563, 564, 565, 566, 488, 489, 490, 5, 491, 387, 117, 118, 119, 567, 568, 569, 570, 85, 89, 83, 86, 87, 855, 856, 857, 858, 859, 860, 861, 862, 863, 864, 865, 866, 867, 868, 869, 870, 871, 872, 873, 874, 875, 876, 877, 878] (by decide +kernel) (by decide +kernel)
set_option maxRecDepth 20000 in
theorem gL_law_X9_has : GoodIn wsL_law (wsV RL 67 RX9 yX9_has wsX9_has) := goodIn_app (goodIn_of _ (by decide +kernel)) ggL_law_X9_has
set_option maxRecDepth 20000 in
theorem ggL_law_X8_count : GoodIn wsL_law wsX8_count := goodIn_r _ [574, 468, 469, 470, 2, 471, 186, 20, 575, 576, 577, 211, 578, 579, 35, 369, 580, 581, 582, 583, 584, 585, 586, 378, 32, 33, 34, 375, 376, 377, 368, 367, 587, 588, 372, 373, 365, 366, 589, 590, 591, 592, 11, 12, 593, 594, 595, 596, 597, 598, 599, 600, 601, 602, 603, 604, 605, 606, 607, 608, 609, 610, 611, 612, 613, 614, 615, 616, 617, 618, 619, 620, 621, 622, 623, 624, 625, 626, 627, 628, 629, 630, 631, 632, 633, 634, 635, 636, 637, 638, 639, 640, 641, 642, 643, 644, 645, 646, 647, 850, 851, 852, 853, 854, 902, 903, 904, 905, 906, 907, 908, 909, 910, 911, 912, 913, 914, 915, 916, 917, 918, 919, 920, 921, 922, 923, 924, 894, 895, 896, 897, 898] (by decide +kernel) (by decide +kernel)
set_option maxRecDepth 20000 in
theorem gL_law_X8_count : GoodIn wsL_law (wsV RL 68 RX8 yX8_count wsX8_count) := goodIn_app (goodIn_of _ (by decide +kernel)) ggL_law_X8_count
set_option maxRecDepth 20000 in
theorem ggL_law_X9_count : GoodIn wsL_law wsX9_count := goodIn_r _ [651, 115, 488, 489, 490, 5, 491, 387, 117, 118, 119, 652, 653, 654, 655, 656, 657, 658, 659, 496, 497, 498, 499, 84, 85, 500, 501, 502, 503, 567, 568, 569, 570, 89, 83, 86, 87, 855, 856, 857, 858, 859, 860, 861, 862, 863, 864, 865, 866, 867, 868, 869, 870, 871, 872, 873, 874, 875, 876, 877, 878] (by decide +kernel) (by decide +kernel)
set_option maxRecDepth 20000 in
theorem gL_law_X9_count : GoodIn wsL_law (wsV RL 71 RX9 yX9_count wsX9_count) := goodIn_app (goodIn_of _ (by decide +kernel)) ggL_law_X9_count
set_option maxRecDepth 20000 in
theorem ggL_law_X8_inner : GoodIn wsL_law wsX8_inner := goodIn_r _ [663, 463, 468, 469, 470, 2, 471, 186, 20, 664, 665, 666, 575, 576, 577, 211, 578, 579, 35, 369, 580, 581, 582, 583, 584, 585, 586, 378, 32, 33, 34, 375, 376, 377, 368, 367, 587, 588, 372, 373, 365, 366, 589, 590, 591, 592, 11, 12, 593, 594, 595, 596, 597, 598, 599, 600, 601, 602, 603, 604, 605, 606, 607, 608, 609, 610, 611, 612, 613, 614, 615, 616, 617, 618, 619, 620, 621, 622, 623, 624, 625, 626, 627, 628, 629, 630, 631, 632, 633, 634, 635, 636, 637, 638, 639, 640, 641, 642, 643, 644, 645, 646, 647, 902, 903, 904, 905, 906, 907, 908, 909, 910, 850, 851, 852, 853, 854, 911, 912, 913, 914, 915, 916, 917, 918, 919, 920, 921, 922, 923, 924, 894, 895, 896, 897, 898] (by decide +kernel) (by decide +kernel)
set_option maxRecDepth 20000 in
theorem gL_law_X8_inner : GoodIn wsL_law (wsV RL 72 RX8 yX8_inner wsX8_inner) := goodIn_app (goodIn_of _ (by decide +kernel)) ggL_law_X8_inner
set_option maxRecDepth 20000 in
theorem ggL_law_X9_inner : GoodIn wsL_law wsX9_inner := goodIn_r _ [670, 115, 488, 489, 490, 5, 491, 387, 117, 118, 119, 656, 657, 658, 659, 496, 497, 498, 499, 84, 85, 500, 501, 502, 503, 567, 568, 569, 570, 89, 83, 86, 87, 855, 856, 857, 858, 859, 860, 861, 862, 863, 864, 865, 866, 867, 868, 869, 870, 871, 872, 873, 874, 875, 876, 877, 878] (by decide +kernel) (by decide +kernel)
set_option maxRecDepth 20000 in
theorem gL_law_X9_inner : GoodIn wsL_law (wsV RL 75 RX9 yX9_inner wsX9_inner) := goodIn_app (goodIn_of _ (by decide +kernel)) ggL_law_X9_inner
set_option maxRecDepth 20000 in
theorem ggL_law_X8_number : GoodIn wsL_law wsX8_number := goodIn_r _ [674, 675, 676, 468, 469, 470, 2, 471, 186, 20, 575, 576, 577, 211, 578, 579, 35, 369, 580, 581, 582, 583, 584, 585, 586, 378, 32, 33, 34, 375, 376, 377, 368, 367, 587, 588, 372, 373, 365, 366, 589, 590, 591, 592, 11, 12, 593, 594, 595, 596, 597, 598, 599, 600, 601, 602, 603, 604, 605, 606, 607, 608, 609, 610, 611, 612, 613, 614, 615, 616, 617, 618, 619, 620, 621, 622, 623, 624, 625, 626, 627, 628, 629, 630, 631, 632, 633, 634, 635, 636, 637, 638, 639, 640, 641, 642, 911, 912, 850, 851, 852, 853, 854, 902, 903, 904, 905, 906, 907, 908, 909, 910, 913, 914, 915, 916, 917, 918, 919, 920, 921, 922, 923, 924, 894, 895, 896, 897, 898] (by decide +kernel) (by decide +kernel)
set_option maxRecDepth 20000 in
theorem gL_law_X8_number : GoodIn wsL_law (wsV RL 76 RX8 yX8_number wsX8_number) := goodIn_app (goodIn_of _ (by decide +kernel)) ggL_law_X8_number
set_option maxRecDepth 20000 in
theorem ggL_law_X9_number : GoodIn wsL_law wsX9_number := goodIn_r _ [680, 143, 681, 93, 488, 489, 490, 5, 491, 387, 117, 118, 119, 682, 683, 684, 685, 83, 652, 653, 654, 655, 656, 657, 658, 659, 496, 497, 498, 499, 84, 85, 500, 501, 502, 503, 567, 568, 569, 570, 89, 86, 87, 855, 856, 857, 858, 859, 860, 861, 862, 863, 864, 865, 866, 867, 868, 869, 870, 871, 872, 873, 874, 875, 876, 877, 878] (by decide +kernel) (by decide +kernel)
set_option maxRecDepth 20000 in
theorem gL_law_X9_number : GoodIn wsL_law (wsV RL 79 RX9 yX9_number wsX9_number) := goodIn_app (goodIn_of _ (by decide +kernel)) ggL_law_X9_number
set_option maxRecDepth 20000 in
theorem ggL_law_X8_rule : GoodIn wsL_law wsX8_rule := goodIn_r _ [689, 690, 468, 469, 470, 2, 471, 186, 20, 102, 103, 104, 575, 576, 577, 211, 578, 579, 35, 369, 580, 581, 582, 583, 584, 585, 586, 378, 32, 33, 34, 375, 376, 377, 368, 367, 587, 588, 372, 373, 365, 366, 589, 590, 591, 592, 11, 12, 593, 594, 595, 596, 597, 598, 599, 600, 601, 602, 603, 604, 605, 606, 607, 608, 609, 610, 611, 612, 613, 614, 615, 616, 617, 618, 619, 620, 621, 622, 623, 624, 625, 626, 627, 628, 629, 630, 631, 632, 633, 634, 635, 636, 637, 638, 639, 640, 641, 642, 643, 644, 645, 646, 647, 850, 851, 852, 853, 854, 902, 903, 904, 905, 906, 907, 908, 909, 910, 911, 912, 913, 914, 915, 916, 917, 918, 919, 920, 921, 922, 923, 924, 894, 895, 896, 897, 898] (by decide +kernel) (by decide +kernel)
set_option maxRecDepth 20000 in
theorem gL_law_X8_rule : GoodIn wsL_law (wsV RL 80 RX8 yX8_rule wsX8_rule) := goodIn_app (goodIn_of _ (by decide +kernel)) ggL_law_X8_rule
set_option maxRecDepth 20000 in
theorem ggL_law_X9_rule : GoodIn wsL_law wsX9_rule := goodIn_r _ [694, 695, 564, 696, 93, 697, 488, 489, 490, 5, 491, 387, 117, 118, 119, 682, 683, 684, 685, 83, 652, 653, 654, 655, 656, 657, 658, 659, 496, 497, 498, 499, 84, 85, 500, 501, 502, 503, 567, 568, 569, 570, 89, 86, 87, 855, 856, 857, 858, 859, 860, 861, 862, 863, 864, 865, 866, 867, 868, 869, 870, 871, 872, 873, 874, 875, 876, 877, 878] (by decide +kernel) (by decide +kernel)
set_option maxRecDepth 20000 in
theorem gL_law_X9_rule : GoodIn wsL_law (wsV RL 84 RX9 yX9_rule wsX9_rule) := goodIn_app (goodIn_of _ (by decide +kernel)) ggL_law_X9_rule
set_option maxRecDepth 20000 in
theorem ggL_law_X8_stairs : GoodIn wsL_law wsX8_stairs := goodIn_r _ [701, 463, 468, 469, 470, 2, 471, 186, 20, 575, 576, 577, 211, 578, 579, 35, 369, 580, 581, 582, 583, 584, 585, 586, 378, 32, 33, 34, 375, 376, 377, 368, 367, 587, 588, 372, 373, 365, 366, 589, 590, 591, 592, 11, 12, 593, 594, 595, 596, 597, 598, 599, 600, 601, 602, 603, 604, 605, 606, 607, 608, 609, 610, 611, 612, 613, 614, 615, 616, 617, 618, 619, 620, 621, 622, 623, 624, 625, 626, 627, 628, 629, 630, 631, 632, 633, 634, 635, 636, 637, 638, 639, 640, 641, 642, 702, 703, 704, 705, 706, 644, 645, 646, 647, 902, 903, 904, 905, 906, 907, 908, 909, 910, 850, 851, 852, 853, 854, 911, 912, 913, 914, 915, 916, 917, 918, 919, 920, 921, 922, 923, 924, 894, 895, 896, 897, 898] (by decide +kernel) (by decide +kernel)
set_option maxRecDepth 20000 in
theorem gL_law_X8_stairs : GoodIn wsL_law (wsV RL 85 RX8 yX8_stairs wsX8_stairs) := goodIn_app (goodIn_of _ (by decide +kernel)) ggL_law_X8_stairs
set_option maxRecDepth 20000 in
theorem ggL_law_X9_stairs : GoodIn wsL_law wsX9_stairs := goodIn_r _ [710, 83, 488, 489, 490, 5, 491, 387, 117, 118, 119, 711, 712, 713, 652, 653, 654, 655, 656, 657, 658, 659, 496, 497, 498, 499, 84, 85, 500, 501, 502, 503, 567, 568, 569, 570, 89, 86, 87, 855, 856, 857, 858, 859, 860, 861, 862, 863, 864, 865, 866, 867, 868, 869, 870, 871, 872, 873, 874, 875, 876, 877, 878] (by decide +kernel) (by decide +kernel)
set_option maxRecDepth 20000 in
theorem gL_law_X9_stairs : GoodIn wsL_law (wsV RL 88 RX9 yX9_stairs wsX9_stairs) := goodIn_app (goodIn_of _ (by decide +kernel)) ggL_law_X9_stairs
set_option maxRecDepth 20000 in
theorem ggL_law_X8_point : GoodIn wsL_law wsX8_point := goodIn_r _ [717, 468, 469, 470, 2, 471, 186, 20, 664, 665, 666, 512, 513, 514, 718, 584, 585, 211, 586, 378, 32, 33, 34, 375, 376, 377, 368, 367, 587, 588, 372, 373, 365, 366, 589, 590, 591, 592, 11, 12, 593, 594, 595, 596, 597, 598, 599, 600, 601, 602, 35, 603, 604, 605, 606, 607, 608, 609, 610, 611, 612, 613, 614, 615, 616, 617, 618, 619, 620, 621, 622, 623, 624, 625, 626, 627, 628, 629, 630, 631, 719, 720, 721, 722, 723, 633, 634, 635, 850, 851, 852, 853, 854, 902, 903, 904, 905, 906, 907, 908, 909, 910, 913, 914, 915, 916, 917, 918, 919, 920, 921, 922, 923, 924, 894, 895, 896, 897, 898] (by decide +kernel) (by decide +kernel)
set_option maxRecDepth 20000 in
theorem gL_law_X8_point : GoodIn wsL_law (wsV RL 89 RX8 yX8_point wsX8_point) := goodIn_app (goodIn_of _ (by decide +kernel)) ggL_law_X8_point
set_option maxRecDepth 20000 in
theorem ggL_law_X9_point_ : GoodIn wsL_law wsX9_point_ := goodIn_r _ [727, 115, 520, 728, 729, 730, 488, 489, 490, 5, 491, 387, 117, 118, 119, 731, 732, 733, 734, 496, 497, 498, 499, 84, 85, 500, 501, 502, 503, 567, 568, 569, 570, 89, 83, 86, 87, 855, 856, 857, 858, 859, 860, 861, 862, 863, 864, 865, 866, 867, 868, 869, 870, 871, 872, 873, 874, 875, 876, 877, 878] (by decide +kernel) (by decide +kernel)
set_option maxRecDepth 20000 in
theorem gL_law_X9_point_ : GoodIn wsL_law (wsV RL 93 RX9 yX9_point_ wsX9_point_) := goodIn_app (goodIn_of _ (by decide +kernel)) ggL_law_X9_point_
set_option maxRecDepth 20000 in
theorem ggL_law_X8_rank : GoodIn wsL_law wsX8_rank := goodIn_r _ [738, 468, 469, 470, 2, 471, 186, 20, 664, 665, 666, 718, 584, 585, 211, 586, 378, 32, 33, 34, 375, 376, 377, 368, 367, 587, 588, 372, 373, 365, 366, 589, 590, 591, 592, 11, 12, 593, 594, 595, 596, 597, 598, 599, 600, 601, 602, 35, 603, 604, 605, 606, 607, 608, 609, 610, 611, 612, 613, 614, 615, 616, 617, 618, 619, 620, 621, 622, 623, 624, 625, 626, 627, 628, 629, 630, 631, 739, 740, 741, 742, 850, 851, 852, 853, 854, 902, 903, 904, 905, 906, 907, 908, 909, 910, 913, 914, 915, 916, 917, 918, 919, 920, 921, 922, 923, 924, 894, 895, 896, 897, 898] (by decide +kernel) (by decide +kernel)
set_option maxRecDepth 20000 in
theorem gL_law_X8_rank : GoodIn wsL_law (wsV RL 94 RX8 yX8_rank wsX8_rank) := goodIn_app (goodIn_of _ (by decide +kernel)) ggL_law_X8_rank
set_option maxRecDepth 20000 in
theorem ggL_law_X9_rank : GoodIn wsL_law wsX9_rank := goodIn_r _ [746, 115, 488, 489, 490, 5, 491, 387, 117, 118, 119, 731, 732, 733, 734, 728, 729, 730, 496, 497, 498, 499, 84, 85, 500, 501, 502, 503, 567, 568, 569, 570, 89, 83, 86, 87, 855, 856, 857, 858, 859, 860, 861, 862, 863, 864, 865, 866, 867, 868, 869, 870, 871, 872, 873, 874, 875, 876, 877, 878] (by decide +kernel) (by decide +kernel)
set_option maxRecDepth 20000 in
theorem gL_law_X9_rank : GoodIn wsL_law (wsV RL 97 RX9 yX9_rank wsX9_rank) := goodIn_app (goodIn_of _ (by decide +kernel)) ggL_law_X9_rank
set_option maxRecDepth 20000 in
theorem ggL_law_X8_move : GoodIn wsL_law wsX8_move := goodIn_r _ [750, 24, 464, 98, 751, 752, 753, 468, 469, 470, 2, 471, 186, 20, 187, 188, 189, 23, 190, 43, 191, 754, 755, 756, 757, 758, 99, 100, 101, 102, 103, 104, 105, 106, 107, 15, 108, 109, 36, 37, 38, 200, 201, 202, 203, 204, 205, 206, 207, 47, 208, 48, 209, 210, 211, 212, 213, 214, 215, 216, 217, 218, 219, 220, 221, 222, 223, 224, 225, 226, 227, 228, 229, 230, 231, 232, 233, 234, 235, 236, 237, 238, 239, 240, 52, 53, 54, 241, 242, 243, 51, 244, 245, 246, 247, 248, 249, 250, 251, 252, 253, 254, 255, 256, 257, 258, 259, 260, 261, 262, 263, 264, 265, 266, 267, 268, 269, 270, 271, 272, 273, 196, 197, 198, 274, 275, 276, 46, 277, 278, 279, 280, 281, 282, 62, 63, 64, 65, 283, 284, 285, 286, 287, 288, 33, 289, 290, 291, 292, 293, 294, 295, 296, 297, 298, 299, 300, 55, 301, 302, 303, 304, 305, 306, 307, 308, 309, 310, 311, 312, 313, 314, 315, 316, 317, 318, 319, 320, 321, 322, 323, 324, 325, 326, 327, 328, 329, 330, 331, 332, 333, 334, 335, 336, 337, 338, 339, 340, 341, 342, 343, 344, 345, 346, 347, 348, 14, 349, 350, 351, 352, 353, 28, 29, 30, 11, 12, 31, 32, 34, 35, 354, 355, 356, 357, 358, 45, 359, 360, 58, 59, 60, 61, 361, 362, 363, 364, 365, 366, 367, 368, 369, 370, 371, 372, 373, 374, 375, 376, 377, 378, 379, 380, 381, 382, 850, 851, 852, 853, 854, 902, 903, 904, 905, 906, 907, 908, 909, 910, 879, 880, 881, 882, 883, 884, 885, 886, 887, 888, 889, 890, 894, 895, 896, 897, 898, 899, 900, 901] (by decide +kernel) (by decide +kernel)
set_option maxRecDepth 20000 in
theorem gL_law_X8_move : GoodIn wsL_law (wsV RL 98 RX8 yX8_move wsX8_move) := goodIn_app (goodIn_of _ (by decide +kernel)) ggL_law_X8_move
set_option maxRecDepth 20000 in
theorem ggL_law_X9_move : GoodIn wsL_law wsX9_move := goodIn_r _ [762, 387, 388, 84, 85, 488, 489, 490, 5, 491, 117, 118, 119, 763, 764, 765, 766, 114, 115, 496, 497, 498, 499, 500, 501, 502, 503, 389, 390, 391, 392, 90, 91, 92, 393, 394, 395, 396, 397, 398, 399, 400, 83, 86, 89, 401, 402, 403, 88, 404, 405, 406, 407, 408, 409, 410, 411, 412, 413, 414, 415, 416, 417, 418, 419, 420, 421, 422, 423, 424, 425, 426, 427, 428, 429, 430, 431, 432, 433, 434, 435, 436, 437, 438, 87, 439, 440, 441, 442, 443, 444, 445, 446, 447, 448, 449, 450, 855, 856, 857, 858, 859, 860, 861, 862, 863, 864, 865, 866, 867, 868, 869, 870, 871, 872, 873, 874, 875, 876, 877, 878] (by decide +kernel) (by decide +kernel)
set_option maxRecDepth 20000 in
theorem gL_law_X9_move : GoodIn wsL_law (wsV RL 101 RX9 yX9_move wsX9_move) := goodIn_app (goodIn_of _ (by decide +kernel)) ggL_law_X9_move
set_option maxRecDepth 20000 in
theorem ggL_law_X8_turn : GoodIn wsL_law wsX8_turn := goodIn_r _ [770, 24, 464, 98, 751, 752, 753, 468, 469, 470, 2, 471, 186, 20, 187, 188, 189, 23, 190, 43, 191, 771, 772, 773, 774, 754, 755, 756, 757, 758, 99, 100, 101, 102, 103, 104, 105, 106, 107, 15, 108, 109, 36, 37, 38, 200, 201, 202, 203, 204, 205, 206, 207, 47, 208, 48, 209, 210, 211, 212, 213, 214, 215, 216, 217, 218, 219, 220, 221, 222, 223, 224, 225, 226, 227, 228, 229, 230, 231, 232, 233, 234, 235, 236, 237, 238, 239, 240, 52, 53, 54, 241, 242, 243, 51, 244, 245, 246, 247, 248, 249, 250, 251, 252, 253, 254, 255, 256, 257, 258, 259, 260, 261, 262, 263, 264, 265, 266, 267, 268, 269, 270, 271, 272, 273, 196, 197, 198, 274, 275, 276, 46, 277, 278, 279, 280, 281, 282, 62, 63, 64, 65, 283, 284, 285, 286, 287, 288, 33, 289, 290, 291, 292, 293, 294, 295, 296, 297, 298, 299, 300, 55, 301, 302, 303, 304, 305, 306, 307, 308, 309, 310, 311, 312, 313, 314, 315, 316, 317, 318, 319, 320, 321, 322, 323, 324, 325, 326, 327, 328, 329, 330, 331, 332, 333, 334, 335, 336, 337, 338, 339, 340, 341, 342, 343, 344, 345, 346, 347, 348, 14, 349, 350, 351, 352, 353, 28, 29, 30, 11, 12, 31, 32, 34, 35, 354, 355, 356, 357, 358, 45, 359, 360, 58, 59, 60, 61, 361, 362, 363, 364, 365, 366, 367, 368, 369, 370, 371, 372, 373, 374, 375, 376, 377, 378, 379, 380, 381, 382, 850, 851, 852, 853, 854, 902, 903, 904, 905, 906, 907, 908, 909, 910, 879, 880, 881, 882, 883, 884, 885, 886, 887, 888, 889, 890, 894, 895, 896, 897, 898, 899, 900, 901] (by decide +kernel) (by decide +kernel)
set_option maxRecDepth 20000 in
theorem gL_law_X8_turn : GoodIn wsL_law (wsV RL 102 RX8 yX8_turn wsX8_turn) := goodIn_app (goodIn_of _ (by decide +kernel)) ggL_law_X8_turn
set_option maxRecDepth 20000 in
theorem ggL_law_X9_turn : GoodIn wsL_law wsX9_turn := goodIn_r _ [778, 779, 388, 84, 85, 114, 115, 387, 488, 489, 490, 5, 491, 117, 118, 119, 389, 390, 391, 392, 90, 91, 92, 393, 394, 395, 396, 397, 398, 399, 400, 83, 86, 89, 401, 402, 403, 88, 404, 405, 406, 407, 408, 409, 410, 411, 412, 413, 414, 415, 416, 417, 418, 419, 420, 421, 422, 423, 424, 425, 426, 427, 428, 429, 430, 431, 432, 433, 434, 435, 436, 437, 438, 87, 439, 440, 441, 442, 443, 444, 445, 446, 447, 448, 449, 450, 855, 856, 857, 858, 859, 860, 861, 862, 863, 864, 865, 866, 867, 868, 869, 870, 871, 872, 873, 874, 875, 876, 877, 878] (by decide +kernel) (by decide +kernel)
set_option maxRecDepth 20000 in
theorem gL_law_X9_turn : GoodIn wsL_law (wsV RL 105 RX9 yX9_turn wsX9_turn) := goodIn_app (goodIn_of _ (by decide +kernel)) ggL_law_X9_turn
set_option maxRecDepth 20000 in
theorem ggL_law_X8_join : GoodIn wsL_law wsX8_join := goodIn_r _ [783, 464, 98, 24, 468, 469, 470, 2, 471, 186, 20, 187, 188, 189, 23, 190, 43, 191, 192, 193, 194, 195, 196, 197, 198, 199, 106, 107, 15, 108, 109, 36, 37, 38, 200, 201, 202, 203, 204, 205, 206, 207, 47, 208, 48, 209, 210, 211, 212, 213, 214, 215, 216, 217, 218, 219, 220, 221, 222, 223, 224, 225, 226, 227, 228, 229, 230, 231, 232, 233, 234, 235, 236, 237, 238, 239, 240, 52, 53, 54, 241, 242, 243, 51, 244, 245, 246, 247, 248, 249, 250, 251, 252, 253, 254, 255, 256, 257, 258, 259, 260, 261, 262, 263, 264, 265, 266, 267, 268, 269, 270, 271, 272, 273, 274, 275, 276, 46, 277, 278, 279, 280, 281, 282, 62, 63, 64, 65, 283, 284, 285, 286, 287, 288, 33, 289, 290, 291, 292, 293, 294, 295, 296, 297, 298, 299, 300, 55, 301, 302, 303, 304, 305, 306, 307, 308, 309, 310, 311, 312, 313, 314, 315, 316, 317, 318, 319, 320, 321, 322, 323, 324, 325, 326, 327, 328, 329, 330, 331, 332, 333, 334, 335, 336, 337, 338, 339, 340, 341, 342, 343, 344, 345, 346, 347, 348, 14, 349, 350, 351, 352, 353, 28, 29, 30, 11, 12, 31, 32, 34, 35, 354, 355, 356, 357, 358, 45, 359, 360, 58, 59, 60, 61, 361, 362, 363, 364, 365, 366, 367, 368, 369, 370, 371, 372, 373, 374, 375, 376, 377, 378, 379, 380, 381, 382, 902, 903, 904, 905, 906, 907, 908, 909, 910, 879, 880, 881, 882, 850, 851, 852, 853, 854, 883, 884, 885, 886, 887, 888, 889, 890, 894, 895, 896, 897, 898, 899, 900, 901] (by decide +kernel) (by decide +kernel)
set_option maxRecDepth 20000 in
theorem gL_law_X8_join : GoodIn wsL_law (wsV RL 106 RX8 yX8_join wsX8_join) := goodIn_app (goodIn_of _ (by decide +kernel)) ggL_law_X8_join
set_option maxRecDepth 20000 in
theorem ggL_law_X9_join : GoodIn wsL_law wsX9_join := goodIn_r _ [787, 387, 84, 388, 85, 488, 489, 490, 5, 491, 117, 118, 119, 389, 390, 391, 392, 90, 91, 92, 393, 394, 395, 396, 397, 398, 399, 400, 83, 86, 89, 401, 402, 403, 88, 404, 405, 406, 407, 408, 409, 410, 411, 412, 413, 414, 415, 416, 417, 418, 419, 420, 421, 422, 423, 424, 425, 426, 427, 428, 429, 430, 431, 432, 433, 434, 435, 436, 437, 438, 87, 439, 440, 441, 442, 443, 444, 445, 446, 447, 448, 449, 450, 855, 856, 857, 858, 859, 860, 861, 862, 863, 864, 865, 866, 867, 868, 869, 870, 871, 872, 873, 874, 875, 876, 877, 878] (by decide +kernel) (by decide +kernel)
set_option maxRecDepth 20000 in
theorem gL_law_X9_join : GoodIn wsL_law (wsV RL 109 RX9 yX9_join wsX9_join) := goodIn_app (goodIn_of _ (by decide +kernel)) ggL_law_X9_join
set_option maxRecDepth 20000 in
theorem ggL_law_X8_slice : GoodIn wsL_law wsX8_slice := goodIn_r _ [791, 24, 758, 98, 468, 469, 470, 2, 471, 186, 20, 512, 513, 514, 187, 188, 189, 23, 190, 43, 191, 718, 584, 585, 211, 586, 378, 32, 33, 34, 375, 376, 377, 368, 367, 587, 588, 372, 373, 365, 366, 589, 590, 591, 592, 11, 12, 593, 594, 595, 596, 597, 598, 599, 600, 601, 602, 35, 603, 604, 605, 606, 607, 608, 609, 610, 611, 612, 613, 614, 615, 616, 617, 618, 619, 620, 621, 622, 623, 624, 625, 626, 627, 628, 629, 630, 631, 792, 793, 794, 795, 796, 106, 107, 15, 108, 109, 36, 37, 38, 200, 201, 202, 203, 204, 205, 206, 207, 47, 208, 48, 209, 210, 212, 213, 214, 215, 216, 217, 218, 219, 220, 221, 222, 223, 224, 225, 226, 227, 228, 229, 230, 231, 232, 233, 234, 235, 236, 237, 238, 239, 240, 52, 53, 54, 241, 242, 243, 51, 244, 245, 246, 247, 248, 249, 250, 251, 252, 253, 254, 255, 256, 257, 258, 259, 260, 261, 262, 263, 264, 265, 266, 267, 268, 269, 270, 271, 272, 273, 196, 197, 198, 274, 275, 276, 46, 277, 278, 279, 280, 281, 282, 62, 63, 64, 65, 283, 284, 285, 286, 287, 288, 289, 290, 291, 292, 293, 294, 295, 296, 297, 298, 299, 300, 55, 301, 302, 303, 304, 305, 306, 307, 308, 309, 310, 311, 312, 313, 314, 315, 316, 317, 318, 319, 320, 321, 322, 323, 324, 325, 326, 327, 328, 329, 330, 331, 332, 333, 334, 335, 336, 337, 338, 339, 340, 341, 342, 343, 344, 345, 346, 347, 348, 14, 349, 350, 351, 352, 353, 28, 29, 30, 31, 354, 355, 356, 357, 358, 45, 359, 360, 58, 59, 60, 61, 361, 362, 363, 364, 369, 370, 371, 374, 379, 380, 381, 382, 850, 851, 852, 853, 854, 883, 884, 885, 886, 887, 888, 889, 890, 879, 880, 881, 882, 902, 903, 904, 905, 906, 907, 908, 909, 910, 913, 914, 915, 916, 917, 918, 919, 920, 921, 922, 923, 924, 894, 895, 896, 897, 898, 899, 900, 901] (by decide +kernel) (by decide +kernel)
set_option maxRecDepth 20000 in
theorem gL_law_X8_slice : GoodIn wsL_law (wsV RL 110 RX8 yX8_slice wsX8_slice) := goodIn_app (goodIn_of _ (by decide +kernel)) ggL_law_X8_slice
set_option maxRecDepth 20000 in
theorem ggL_law_X9_slice : GoodIn wsL_law wsX9_slice := goodIn_r _ [800, 520, 388, 387, 488, 489, 490, 5, 491, 117, 118, 119, 496, 497, 498, 499, 84, 85, 500, 501, 502, 503, 567, 568, 569, 570, 89, 83, 86, 87, 389, 390, 391, 392, 90, 91, 92, 393, 394, 395, 396, 397, 398, 399, 400, 401, 402, 403, 88, 404, 405, 406, 407, 408, 409, 410, 411, 412, 413, 414, 415, 416, 417, 418, 419, 420, 421, 422, 423, 424, 425, 426, 427, 428, 429, 430, 431, 432, 433, 434, 435, 436, 437, 438, 439, 440, 441, 442, 443, 444, 445, 446, 447, 448, 449, 450, 855, 856, 857, 858, 859, 860, 861, 862, 863, 864, 865, 866, 867, 868, 869, 870, 871, 872, 873, 874, 875, 876, 877, 878] (by decide +kernel) (by decide +kernel)
set_option maxRecDepth 20000 in
theorem gL_law_X9_slice : GoodIn wsL_law (wsV RL 113 RX9 yX9_slice wsX9_slice) := goodIn_app (goodIn_of _ (by decide +kernel)) ggL_law_X9_slice
set_option maxRecDepth 20000 in
theorem ggL_law_X8_within : GoodIn wsL_law wsX8_within := goodIn_r _ [804, 464, 468, 469, 470, 2, 471, 186, 20, 805, 806, 807, 211, 808, 374, 542, 543, 544, 809, 556, 557, 558, 373, 559, 372, 545, 340, 341, 46, 342, 62, 63, 64, 65, 902, 903, 904, 905, 906, 907, 908, 909, 910, 850, 851, 852, 853, 854, 879, 880, 881, 882, 894, 895, 896, 897, 898] (by decide +kernel) (by decide +kernel)
set_option maxRecDepth 20000 in
theorem gL_law_X8_within : GoodIn wsL_law (wsV RL 114 RX8 yX8_within wsX8_within) := goodIn_app (goodIn_of _ (by decide +kernel)) ggL_law_X8_within
set_option maxRecDepth 20000 in
theorem ggL_law_X9_within : GoodIn wsL_law wsX9_within := goodIn_r _ [813, 84, 85, 488, 489, 490, 5, 491, 387, 117, 118, 119, 567, 568, 569, 570, 89, 83, 86, 87, 855, 856, 857, 858, 859, 860, 861, 862, 863, 864, 865, 866, 867, 868, 869, 870, 871, 872, 873, 874, 875, 876, 877, 878] (by decide +kernel) (by decide +kernel)
set_option maxRecDepth 20000 in
theorem gL_law_X9_within : GoodIn wsL_law (wsV RL 117 RX9 yX9_within wsX9_within) := goodIn_app (goodIn_of _ (by decide +kernel)) ggL_law_X9_within
set_option maxRecDepth 20000 in
theorem ggL_law_X8_same : GoodIn wsL_law wsX8_same := goodIn_r _ [817, 464, 468, 469, 470, 2, 471, 186, 20, 818, 819, 820, 15, 821, 109, 36, 37, 38, 822, 218, 219, 220, 902, 903, 904, 905, 906, 907, 908, 909, 910, 850, 851, 852, 853, 854, 879, 880, 881, 882] (by decide +kernel) (by decide +kernel)
set_option maxRecDepth 20000 in
theorem gL_law_X8_same : GoodIn wsL_law (wsV RL 118 RX8 yX8_same wsX8_same) := goodIn_app (goodIn_of _ (by decide +kernel)) ggL_law_X8_same
set_option maxRecDepth 20000 in
theorem ggL_law_X9_same : GoodIn wsL_law wsX9_same := goodIn_r _ [826, 84, 85, 488, 489, 490, 5, 491, 387, 117, 118, 119, 855, 856, 857, 858, 859, 860, 861, 862, 863, 864, 865, 866, 867, 868, 869, 870, 871, 872, 873, 874, 875, 876, 877, 878] (by decide +kernel) (by decide +kernel)
set_option maxRecDepth 20000 in
theorem gL_law_X9_same : GoodIn wsL_law (wsV RL 121 RX9 yX9_same wsX9_same) := goodIn_app (goodIn_of _ (by decide +kernel)) ggL_law_X9_same
set_option maxRecDepth 20000 in
theorem ggL_law_X8_most : GoodIn wsL_law wsX8_most := goodIn_r _ [830, 675, 468, 469, 470, 2, 471, 186, 20, 102, 103, 104, 831, 832, 833, 211, 834, 835, 371, 374, 542, 543, 544, 378, 32, 33, 34, 850, 851, 852, 853, 854, 902, 903, 904, 905, 906, 907, 908, 909, 910, 879, 880, 881, 882] (by decide +kernel) (by decide +kernel)
set_option maxRecDepth 20000 in
theorem gL_law_X8_most : GoodIn wsL_law (wsV RL 122 RX8 yX8_most wsX8_most) := goodIn_app (goodIn_of _ (by decide +kernel)) ggL_law_X8_most
set_option maxRecDepth 20000 in
theorem ggL_law_X9_most : GoodIn wsL_law wsX9_most := goodIn_r _ [839, 840, 841, 681, 84, 85, 488, 489, 490, 5, 491, 387, 117, 118, 119, 855, 856, 857, 858, 859, 860, 861, 862, 863, 864, 865, 866, 867, 868, 869, 870, 871, 872, 873, 874, 875, 876, 877, 878] (by decide +kernel) (by decide +kernel)
set_option maxRecDepth 20000 in
theorem gL_law_X9_most : GoodIn wsL_law (wsV RL 126 RX9 yX9_most wsX9_most) := goodIn_app (goodIn_of _ (by decide +kernel)) ggL_law_X9_most
set_option maxRecDepth 20000 in
theorem ggL_law_X8_all : GoodIn wsL_law wsX8_all := goodIn_r _ [845, 186, 16, 98, 18, 148, 149, 850, 851, 852, 853, 854, 879, 880, 881, 882, 891, 892, 893] (by decide +kernel) (by decide +kernel)
set_option maxRecDepth 20000 in
theorem gL_law_X8_all : GoodIn wsL_law (wsV RL 127 RX8 yX8_all wsX8_all) := goodIn_app (goodIn_of _ (by decide +kernel)) ggL_law_X8_all
set_option maxRecDepth 20000 in
theorem ggL_law_X9_all : GoodIn wsL_law wsX9_all := goodIn_r _ [849, 387, 116, 80, 81, 855, 856, 857, 858, 859, 860, 861, 862, 863, 864, 865, 866, 867, 868, 869, 870, 871, 872, 873, 874, 875, 876, 877, 878] (by decide +kernel) (by decide +kernel)
set_option maxRecDepth 20000 in
theorem gL_law_X9_all : GoodIn wsL_law (wsV RL 131 RX9 yX9_all wsX9_all) := goodIn_app (goodIn_of _ (by decide +kernel)) ggL_law_X9_all
theorem dL_law_0 : decode cL_law 0 = .ok (.new 7, 3) := by decide +kernel
theorem dL_law_3 : decode cL_law 3 = .ok (.dup, 1) := by decide +kernel
theorem dL_law_4 : decode cL_law 4 = .ok (.invokespecial 9, 3) := by decide +kernel
theorem dL_law_7 : decode cL_law 7 = .ok (.astore_n 1, 1) := by decide +kernel
theorem dL_law_8 : decode cL_law 8 = .ok (.new 10, 3) := by decide +kernel
theorem dL_law_11 : decode cL_law 11 = .ok (.dup, 1) := by decide +kernel
theorem dL_law_12 : decode cL_law 12 = .ok (.invokespecial 12, 3) := by decide +kernel
theorem dL_law_15 : decode cL_law 15 = .ok (.astore_n 2, 1) := by decide +kernel
theorem dL_law_16 : decode cL_law 16 = .ok (.iconst 0, 1) := by decide +kernel
theorem dL_law_17 : decode cL_law 17 = .ok (.istore_n 3, 1) := by decide +kernel
theorem dL_law_18 : decode cL_law 18 = .ok (.iload_n 3, 1) := by decide +kernel
theorem dL_law_19 : decode cL_law 19 = .ok (.aload_n 0, 1) := by decide +kernel
theorem dL_law_20 : decode cL_law 20 = .ok (.arraylength, 1) := by decide +kernel
theorem dL_law_21 : decode cL_law 21 = .ok (.bipush 6, 2) := by decide +kernel
theorem dL_law_23 : decode cL_law 23 = .ok (.isub, 1) := by decide +kernel
theorem dL_law_24 : decode cL_law 24 = .ok (.if_icmp .gt 1206, 3) := by decide +kernel
theorem dL_law_27 : decode cL_law 27 = .ok (.aload_n 0, 1) := by decide +kernel
theorem dL_law_28 : decode cL_law 28 = .ok (.iload_n 3, 1) := by decide +kernel
theorem dL_law_29 : decode cL_law 29 = .ok (.iaload, 1) := by decide +kernel
theorem dL_law_30 : decode cL_law 30 = .ok (.bipush 31, 2) := by decide +kernel
theorem dL_law_32 : decode cL_law 32 = .ok (.iand, 1) := by decide +kernel
theorem dL_law_33 : decode cL_law 33 = .ok (.tableswitch 1191 0 26 #[123, 166, 209, 282, 325, 338, 351, 364, 397, 440, 483, 516, 579, 612, 645, 678, 712, 745, 798, 861, 914, 947, 980, 1023, 1056, 1089, 1168], 123) := by decide +kernel
theorem dL_law_156 : decode cL_law 156 = .ok (.aload_n 1, 1) := by decide +kernel
theorem dL_law_157 : decode cL_law 157 = .ok (.aload_n 0, 1) := by decide +kernel
theorem dL_law_158 : decode cL_law 158 = .ok (.iload_n 3, 1) := by decide +kernel
theorem dL_law_159 : decode cL_law 159 = .ok (.iconst 1, 1) := by decide +kernel
theorem dL_law_160 : decode cL_law 160 = .ok (.iadd, 1) := by decide +kernel
theorem dL_law_161 : decode cL_law 161 = .ok (.iaload, 1) := by decide +kernel
theorem dL_law_162 : decode cL_law 162 = .ok (.aload_n 0, 1) := by decide +kernel
theorem dL_law_163 : decode cL_law 163 = .ok (.iload_n 3, 1) := by decide +kernel
theorem dL_law_164 : decode cL_law 164 = .ok (.iconst 2, 1) := by decide +kernel
theorem dL_law_165 : decode cL_law 165 = .ok (.iadd, 1) := by decide +kernel
theorem dL_law_166 : decode cL_law 166 = .ok (.iaload, 1) := by decide +kernel
theorem dL_law_167 : decode cL_law 167 = .ok (.aload_n 0, 1) := by decide +kernel
theorem dL_law_168 : decode cL_law 168 = .ok (.iload_n 3, 1) := by decide +kernel
theorem dL_law_169 : decode cL_law 169 = .ok (.iconst 3, 1) := by decide +kernel
theorem dL_law_170 : decode cL_law 170 = .ok (.iadd, 1) := by decide +kernel
theorem dL_law_171 : decode cL_law 171 = .ok (.iaload, 1) := by decide +kernel
theorem dL_law_172 : decode cL_law 172 = .ok (.invokevirtual 13, 3) := by decide +kernel
theorem dL_law_175 : decode cL_law 175 = .ok (.aload_n 2, 1) := by decide +kernel
theorem dL_law_176 : decode cL_law 176 = .ok (.aload_n 0, 1) := by decide +kernel
theorem dL_law_177 : decode cL_law 177 = .ok (.iload_n 3, 1) := by decide +kernel
theorem dL_law_178 : decode cL_law 178 = .ok (.iconst 1, 1) := by decide +kernel
theorem dL_law_179 : decode cL_law 179 = .ok (.iadd, 1) := by decide +kernel
theorem dL_law_180 : decode cL_law 180 = .ok (.iaload, 1) := by decide +kernel
theorem dL_law_181 : decode cL_law 181 = .ok (.aload_n 0, 1) := by decide +kernel
theorem dL_law_182 : decode cL_law 182 = .ok (.iload_n 3, 1) := by decide +kernel
theorem dL_law_183 : decode cL_law 183 = .ok (.iconst 2, 1) := by decide +kernel
theorem dL_law_184 : decode cL_law 184 = .ok (.iadd, 1) := by decide +kernel
theorem dL_law_185 : decode cL_law 185 = .ok (.iaload, 1) := by decide +kernel
theorem dL_law_186 : decode cL_law 186 = .ok (.aload_n 0, 1) := by decide +kernel
theorem dL_law_187 : decode cL_law 187 = .ok (.iload_n 3, 1) := by decide +kernel
theorem dL_law_188 : decode cL_law 188 = .ok (.iconst 3, 1) := by decide +kernel
theorem dL_law_189 : decode cL_law 189 = .ok (.iadd, 1) := by decide +kernel
theorem dL_law_190 : decode cL_law 190 = .ok (.iaload, 1) := by decide +kernel
theorem dL_law_191 : decode cL_law 191 = .ok (.invokevirtual 17, 3) := by decide +kernel
theorem dL_law_194 : decode cL_law 194 = .ok (.if_icmp .eq 1030, 3) := by decide +kernel
theorem dL_law_197 : decode cL_law 197 = .ok (.iconst 0, 1) := by decide +kernel
theorem dL_law_198 : decode cL_law 198 = .ok (.ireturn, 1) := by decide +kernel
theorem dL_law_199 : decode cL_law 199 = .ok (.aload_n 1, 1) := by decide +kernel
theorem dL_law_200 : decode cL_law 200 = .ok (.aload_n 0, 1) := by decide +kernel
theorem dL_law_201 : decode cL_law 201 = .ok (.iload_n 3, 1) := by decide +kernel
theorem dL_law_202 : decode cL_law 202 = .ok (.iconst 1, 1) := by decide +kernel
theorem dL_law_203 : decode cL_law 203 = .ok (.iadd, 1) := by decide +kernel
theorem dL_law_204 : decode cL_law 204 = .ok (.iaload, 1) := by decide +kernel
theorem dL_law_205 : decode cL_law 205 = .ok (.aload_n 0, 1) := by decide +kernel
theorem dL_law_206 : decode cL_law 206 = .ok (.iload_n 3, 1) := by decide +kernel
theorem dL_law_207 : decode cL_law 207 = .ok (.iconst 2, 1) := by decide +kernel
theorem dL_law_208 : decode cL_law 208 = .ok (.iadd, 1) := by decide +kernel
theorem dL_law_209 : decode cL_law 209 = .ok (.iaload, 1) := by decide +kernel
theorem dL_law_210 : decode cL_law 210 = .ok (.aload_n 0, 1) := by decide +kernel
theorem dL_law_211 : decode cL_law 211 = .ok (.iload_n 3, 1) := by decide +kernel
theorem dL_law_212 : decode cL_law 212 = .ok (.iconst 3, 1) := by decide +kernel
theorem dL_law_213 : decode cL_law 213 = .ok (.iadd, 1) := by decide +kernel
theorem dL_law_214 : decode cL_law 214 = .ok (.iaload, 1) := by decide +kernel
theorem dL_law_215 : decode cL_law 215 = .ok (.invokevirtual 18, 3) := by decide +kernel
theorem dL_law_218 : decode cL_law 218 = .ok (.aload_n 2, 1) := by decide +kernel
theorem dL_law_219 : decode cL_law 219 = .ok (.aload_n 0, 1) := by decide +kernel
theorem dL_law_220 : decode cL_law 220 = .ok (.iload_n 3, 1) := by decide +kernel
theorem dL_law_221 : decode cL_law 221 = .ok (.iconst 1, 1) := by decide +kernel
theorem dL_law_222 : decode cL_law 222 = .ok (.iadd, 1) := by decide +kernel
theorem dL_law_223 : decode cL_law 223 = .ok (.iaload, 1) := by decide +kernel
theorem dL_law_224 : decode cL_law 224 = .ok (.aload_n 0, 1) := by decide +kernel
theorem dL_law_225 : decode cL_law 225 = .ok (.iload_n 3, 1) := by decide +kernel
theorem dL_law_226 : decode cL_law 226 = .ok (.iconst 2, 1) := by decide +kernel
theorem dL_law_227 : decode cL_law 227 = .ok (.iadd, 1) := by decide +kernel
theorem dL_law_228 : decode cL_law 228 = .ok (.iaload, 1) := by decide +kernel
theorem dL_law_229 : decode cL_law 229 = .ok (.aload_n 0, 1) := by decide +kernel
theorem dL_law_230 : decode cL_law 230 = .ok (.iload_n 3, 1) := by decide +kernel
theorem dL_law_231 : decode cL_law 231 = .ok (.iconst 3, 1) := by decide +kernel
theorem dL_law_232 : decode cL_law 232 = .ok (.iadd, 1) := by decide +kernel
theorem dL_law_233 : decode cL_law 233 = .ok (.iaload, 1) := by decide +kernel
theorem dL_law_234 : decode cL_law 234 = .ok (.invokevirtual 21, 3) := by decide +kernel
theorem dL_law_237 : decode cL_law 237 = .ok (.if_icmp .eq 987, 3) := by decide +kernel
theorem dL_law_240 : decode cL_law 240 = .ok (.iconst 0, 1) := by decide +kernel
theorem dL_law_241 : decode cL_law 241 = .ok (.ireturn, 1) := by decide +kernel
theorem dL_law_242 : decode cL_law 242 = .ok (.aload_n 1, 1) := by decide +kernel
theorem dL_law_243 : decode cL_law 243 = .ok (.aload_n 0, 1) := by decide +kernel
theorem dL_law_244 : decode cL_law 244 = .ok (.iload_n 3, 1) := by decide +kernel
theorem dL_law_245 : decode cL_law 245 = .ok (.iconst 1, 1) := by decide +kernel
theorem dL_law_246 : decode cL_law 246 = .ok (.iadd, 1) := by decide +kernel
theorem dL_law_247 : decode cL_law 247 = .ok (.iaload, 1) := by decide +kernel
theorem dL_law_248 : decode cL_law 248 = .ok (.aload_n 0, 1) := by decide +kernel
theorem dL_law_249 : decode cL_law 249 = .ok (.iload_n 3, 1) := by decide +kernel
theorem dL_law_250 : decode cL_law 250 = .ok (.iconst 2, 1) := by decide +kernel
theorem dL_law_251 : decode cL_law 251 = .ok (.iadd, 1) := by decide +kernel
theorem dL_law_252 : decode cL_law 252 = .ok (.iaload, 1) := by decide +kernel
theorem dL_law_253 : decode cL_law 253 = .ok (.aload_n 0, 1) := by decide +kernel
theorem dL_law_254 : decode cL_law 254 = .ok (.iload_n 3, 1) := by decide +kernel
