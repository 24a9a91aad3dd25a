theorem dX9_join_145 : decode cX9_join 145 = .ok (.aload_n 0, 1) := by decide +kernel
theorem dX9_join_146 : decode cX9_join 146 = .ok (.aload_n 0, 1) := by decide +kernel
theorem dX9_join_147 : decode cX9_join 147 = .ok (.getfield 26, 3) := by decide +kernel
theorem dX9_join_150 : decode cX9_join 150 = .ok (.iload_n 1, 1) := by decide +kernel
theorem dX9_join_151 : decode cX9_join 151 = .ok (.iaload, 1) := by decide +kernel
theorem dX9_join_152 : decode cX9_join 152 = .ok (.aload_n 0, 1) := by decide +kernel
theorem dX9_join_153 : decode cX9_join 153 = .ok (.getfield 26, 3) := by decide +kernel
theorem dX9_join_156 : decode cX9_join 156 = .ok (.iload_n 2, 1) := by decide +kernel
theorem dX9_join_157 : decode cX9_join 157 = .ok (.iaload, 1) := by decide +kernel
theorem dX9_join_158 : decode cX9_join 158 = .ok (.iadd, 1) := by decide +kernel
theorem dX9_join_159 : decode cX9_join 159 = .ok (.invokevirtual 140, 3) := by decide +kernel
theorem dX9_join_162 : decode cX9_join 162 = .ok (.ireturn, 1) := by decide +kernel
set_option maxRecDepth 20000 in
theorem ggX9_slice_X9_is : GoodIn wsX9_slice wsX9_is := goodIn_r _ [8, 3, 9, 10, 7, 11, 96, 97, 98, 99, 100, 101, 102, 103, 104, 105, 106, 107, 108, 109, 110, 111, 112, 113, 114, 115, 116, 117, 118, 119] (by decide +kernel) (by decide +kernel)
set_option maxRecDepth 20000 in
theorem gX9_slice_X9_is : GoodIn wsX9_slice (wsV RX9 157 RX9 yX9_is wsX9_is) := goodIn_app (goodIn_of _ (by decide +kernel)) ggX9_slice_X9_is
set_option maxRecDepth 20000 in
theorem ggX9_slice_X9_in : GoodIn wsX9_slice wsX9_in := goodIn_r _ [11] (by decide +kernel) (by decide +kernel)
set_option maxRecDepth 20000 in
theorem gX9_slice_X9_in : GoodIn wsX9_slice (va_wsS RX9 60 yX9_in wsX9_in) := goodIn_app (goodIn_of _ (by decide +kernel)) ggX9_slice_X9_in
set_option maxRecDepth 20000 in
theorem ggX9_slice_X9_least : GoodIn wsX9_slice wsX9_least := goodIn_r _ [15, 16, 17, 96, 97, 98, 99, 100, 101, 102, 103, 104, 105, 106, 107, 108, 109, 110, 111, 112, 113, 114, 115, 116, 117, 118, 119] (by decide +kernel) (by decide +kernel)
set_option maxRecDepth 20000 in
theorem gX9_slice_X9_least : GoodIn wsX9_slice (wsV RX9 143 RX9 yX9_least wsX9_least) := goodIn_app (goodIn_of _ (by decide +kernel)) ggX9_slice_X9_least
set_option maxRecDepth 20000 in
theorem ggX9_slice_X9_greatest : GoodIn wsX9_slice wsX9_greatest := goodIn_r _ [21, 16, 17, 96, 97, 98, 99, 100, 101, 102, 103, 104, 105, 106, 107, 108, 109, 110, 111, 112, 113, 114, 115, 116, 117, 118, 119] (by decide +kernel) (by decide +kernel)
set_option maxRecDepth 20000 in
theorem gX9_slice_X9_greatest : GoodIn wsX9_slice (wsV RX9 146 RX9 yX9_greatest wsX9_greatest) := goodIn_app (goodIn_of _ (by decide +kernel)) ggX9_slice_X9_greatest
set_option maxRecDepth 20000 in
theorem ggX9_slice_X9_where : GoodIn wsX9_slice wsX9_where := goodIn_r _ [25, 17, 26, 27, 28, 29, 96, 97, 98, 99, 100, 101, 102, 103, 104, 105, 106, 107, 108, 109, 110, 111, 112, 113, 114, 115, 116, 117, 118, 119] (by decide +kernel) (by decide +kernel)
set_option maxRecDepth 20000 in
theorem gX9_slice_X9_where : GoodIn wsX9_slice (wsV RX9 149 RX9 yX9_where wsX9_where) := goodIn_app (goodIn_of _ (by decide +kernel)) ggX9_slice_X9_where
set_option maxRecDepth 20000 in
theorem ggX9_slice_X9_point : GoodIn wsX9_slice wsX9_point := goodIn_r _ [33, 2, 34, 35, 36, 37, 38, 39, 7, 40, 96, 97, 98, 99, 100, 101, 102, 103, 104, 105, 106, 107, 108, 109, 110, 111, 112, 113, 114, 115, 116, 117, 118, 119] (by decide +kernel) (by decide +kernel)
set_option maxRecDepth 20000 in
theorem gX9_slice_X9_point : GoodIn wsX9_slice (wsV RX9 137 RX9 yX9_point wsX9_point) := goodIn_app (goodIn_of _ (by decide +kernel)) ggX9_slice_X9_point
set_option maxRecDepth 20000 in
theorem ggX9_slice_X9_made : GoodIn wsX9_slice wsX9_made := goodIn_p _ [44, 52, 56, 59, 63, 67, 71, 75, 79, 83, 87, 91, 95] rfl (by decide +kernel)
set_option maxRecDepth 20000 in
theorem gX9_slice_X9_made : GoodIn wsX9_slice (wsV RX9 140 RX9 yX9_made wsX9_made) := goodIn_app (goodIn_of _ (by decide +kernel)) ggX9_slice_X9_made
theorem dX9_slice_0 : decode cX9_slice 0 = .ok (.aload_n 0, 1) := by decide +kernel
theorem dX9_slice_1 : decode cX9_slice 1 = .ok (.iload_n 1, 1) := by decide +kernel
theorem dX9_slice_2 : decode cX9_slice 2 = .ok (.invokevirtual 157, 3) := by decide +kernel
theorem dX9_slice_5 : decode cX9_slice 5 = .ok (.ifCond .eq 15, 3) := by decide +kernel
theorem dX9_slice_8 : decode cX9_slice 8 = .ok (.iload_n 2, 1) := by decide +kernel
theorem dX9_slice_9 : decode cX9_slice 9 = .ok (.i2l, 1) := by decide +kernel
theorem dX9_slice_10 : decode cX9_slice 10 = .ok (.lconst 0, 1) := by decide +kernel
theorem dX9_slice_11 : decode cX9_slice 11 = .ok (.ldc2_w 166, 3) := by decide +kernel
theorem dX9_slice_14 : decode cX9_slice 14 = .ok (.invokestatic 60, 3) := by decide +kernel
theorem dX9_slice_17 : decode cX9_slice 17 = .ok (.ifCond .ne 5, 3) := by decide +kernel
theorem dX9_slice_20 : decode cX9_slice 20 = .ok (.iconst (-1), 1) := by decide +kernel
theorem dX9_slice_21 : decode cX9_slice 21 = .ok (.ireturn, 1) := by decide +kernel
theorem dX9_slice_22 : decode cX9_slice 22 = .ok (.aload_n 0, 1) := by decide +kernel
theorem dX9_slice_23 : decode cX9_slice 23 = .ok (.iconst 0, 1) := by decide +kernel
theorem dX9_slice_24 : decode cX9_slice 24 = .ok (.putfield 74, 3) := by decide +kernel
theorem dX9_slice_27 : decode cX9_slice 27 = .ok (.aload_n 0, 1) := by decide +kernel
theorem dX9_slice_28 : decode cX9_slice 28 = .ok (.iload_n 1, 1) := by decide +kernel
theorem dX9_slice_29 : decode cX9_slice 29 = .ok (.iconst 0, 1) := by decide +kernel
theorem dX9_slice_30 : decode cX9_slice 30 = .ok (.invokevirtual 143, 3) := by decide +kernel
theorem dX9_slice_33 : decode cX9_slice 33 = .ok (.istore 4, 2) := by decide +kernel
theorem dX9_slice_35 : decode cX9_slice 35 = .ok (.iload 4, 2) := by decide +kernel
theorem dX9_slice_37 : decode cX9_slice 37 = .ok (.aload_n 0, 1) := by decide +kernel
theorem dX9_slice_38 : decode cX9_slice 38 = .ok (.iload_n 1, 1) := by decide +kernel
theorem dX9_slice_39 : decode cX9_slice 39 = .ok (.iconst 0, 1) := by decide +kernel
theorem dX9_slice_40 : decode cX9_slice 40 = .ok (.invokevirtual 146, 3) := by decide +kernel
theorem dX9_slice_43 : decode cX9_slice 43 = .ok (.if_icmp .gt 112, 3) := by decide +kernel
theorem dX9_slice_46 : decode cX9_slice 46 = .ok (.aload_n 0, 1) := by decide +kernel
theorem dX9_slice_47 : decode cX9_slice 47 = .ok (.iload_n 1, 1) := by decide +kernel
theorem dX9_slice_48 : decode cX9_slice 48 = .ok (.iconst 1, 1) := by decide +kernel
theorem dX9_slice_49 : decode cX9_slice 49 = .ok (.invokevirtual 143, 3) := by decide +kernel
theorem dX9_slice_52 : decode cX9_slice 52 = .ok (.istore 5, 2) := by decide +kernel
theorem dX9_slice_54 : decode cX9_slice 54 = .ok (.iload 5, 2) := by decide +kernel
theorem dX9_slice_56 : decode cX9_slice 56 = .ok (.aload_n 0, 1) := by decide +kernel
theorem dX9_slice_57 : decode cX9_slice 57 = .ok (.iload_n 1, 1) := by decide +kernel
theorem dX9_slice_58 : decode cX9_slice 58 = .ok (.iconst 1, 1) := by decide +kernel
theorem dX9_slice_59 : decode cX9_slice 59 = .ok (.invokevirtual 146, 3) := by decide +kernel
theorem dX9_slice_62 : decode cX9_slice 62 = .ok (.if_icmp .gt 87, 3) := by decide +kernel
theorem dX9_slice_65 : decode cX9_slice 65 = .ok (.aload_n 0, 1) := by decide +kernel
theorem dX9_slice_66 : decode cX9_slice 66 = .ok (.iload_n 1, 1) := by decide +kernel
theorem dX9_slice_67 : decode cX9_slice 67 = .ok (.iconst 2, 1) := by decide +kernel
theorem dX9_slice_68 : decode cX9_slice 68 = .ok (.invokevirtual 143, 3) := by decide +kernel
theorem dX9_slice_71 : decode cX9_slice 71 = .ok (.istore 6, 2) := by decide +kernel
theorem dX9_slice_73 : decode cX9_slice 73 = .ok (.iload 6, 2) := by decide +kernel
theorem dX9_slice_75 : decode cX9_slice 75 = .ok (.aload_n 0, 1) := by decide +kernel
theorem dX9_slice_76 : decode cX9_slice 76 = .ok (.iload_n 1, 1) := by decide +kernel
theorem dX9_slice_77 : decode cX9_slice 77 = .ok (.iconst 2, 1) := by decide +kernel
theorem dX9_slice_78 : decode cX9_slice 78 = .ok (.invokevirtual 146, 3) := by decide +kernel
theorem dX9_slice_81 : decode cX9_slice 81 = .ok (.if_icmp .gt 62, 3) := by decide +kernel
theorem dX9_slice_84 : decode cX9_slice 84 = .ok (.iload_n 2, 1) := by decide +kernel
theorem dX9_slice_85 : decode cX9_slice 85 = .ok (.ifCond .ne 8, 3) := by decide +kernel
theorem dX9_slice_88 : decode cX9_slice 88 = .ok (.iload 4, 2) := by decide +kernel
theorem dX9_slice_90 : decode cX9_slice 90 = .ok (.goto 15, 3) := by decide +kernel
theorem dX9_slice_93 : decode cX9_slice 93 = .ok (.iload_n 2, 1) := by decide +kernel
theorem dX9_slice_94 : decode cX9_slice 94 = .ok (.iconst 1, 1) := by decide +kernel
theorem dX9_slice_95 : decode cX9_slice 95 = .ok (.if_icmp .ne 8, 3) := by decide +kernel
theorem dX9_slice_98 : decode cX9_slice 98 = .ok (.iload 5, 2) := by decide +kernel
theorem dX9_slice_100 : decode cX9_slice 100 = .ok (.goto 5, 3) := by decide +kernel
theorem dX9_slice_103 : decode cX9_slice 103 = .ok (.iload 6, 2) := by decide +kernel
theorem dX9_slice_105 : decode cX9_slice 105 = .ok (.iload_n 3, 1) := by decide +kernel
theorem dX9_slice_106 : decode cX9_slice 106 = .ok (.if_icmp .ne 31, 3) := by decide +kernel
theorem dX9_slice_109 : decode cX9_slice 109 = .ok (.aload_n 0, 1) := by decide +kernel
theorem dX9_slice_110 : decode cX9_slice 110 = .ok (.iload_n 1, 1) := by decide +kernel
theorem dX9_slice_111 : decode cX9_slice 111 = .ok (.iload 4, 2) := by decide +kernel
theorem dX9_slice_113 : decode cX9_slice 113 = .ok (.i2l, 1) := by decide +kernel
theorem dX9_slice_114 : decode cX9_slice 114 = .ok (.iload 5, 2) := by decide +kernel
theorem dX9_slice_116 : decode cX9_slice 116 = .ok (.i2l, 1) := by decide +kernel
theorem dX9_slice_117 : decode cX9_slice 117 = .ok (.iload 6, 2) := by decide +kernel
theorem dX9_slice_119 : decode cX9_slice 119 = .ok (.i2l, 1) := by decide +kernel
theorem dX9_slice_120 : decode cX9_slice 120 = .ok (.lconst 1, 1) := by decide +kernel
theorem dX9_slice_121 : decode cX9_slice 121 = .ok (.invokevirtual 149, 3) := by decide +kernel
theorem dX9_slice_124 : decode cX9_slice 124 = .ok (.ifCond .le 13, 3) := by decide +kernel
theorem dX9_slice_127 : decode cX9_slice 127 = .ok (.aload_n 0, 1) := by decide +kernel
theorem dX9_slice_128 : decode cX9_slice 128 = .ok (.iload 4, 2) := by decide +kernel
theorem dX9_slice_130 : decode cX9_slice 130 = .ok (.iload 5, 2) := by decide +kernel
theorem dX9_slice_132 : decode cX9_slice 132 = .ok (.iload 6, 2) := by decide +kernel
theorem dX9_slice_134 : decode cX9_slice 134 = .ok (.invokevirtual 137, 3) := by decide +kernel
theorem dX9_slice_137 : decode cX9_slice 137 = .ok (.iinc 6 1, 3) := by decide +kernel
theorem dX9_slice_140 : decode cX9_slice 140 = .ok (.goto (-67), 3) := by decide +kernel
theorem dX9_slice_143 : decode cX9_slice 143 = .ok (.iinc 5 1, 3) := by decide +kernel
theorem dX9_slice_146 : decode cX9_slice 146 = .ok (.goto (-92), 3) := by decide +kernel
theorem dX9_slice_149 : decode cX9_slice 149 = .ok (.iinc 4 1, 3) := by decide +kernel
theorem dX9_slice_152 : decode cX9_slice 152 = .ok (.goto (-117), 3) := by decide +kernel
theorem dX9_slice_155 : decode cX9_slice 155 = .ok (.aload_n 0, 1) := by decide +kernel
theorem dX9_slice_156 : decode cX9_slice 156 = .ok (.getfield 74, 3) := by decide +kernel
theorem dX9_slice_159 : decode cX9_slice 159 = .ok (.ifCond .ne 6, 3) := by decide +kernel
theorem dX9_slice_162 : decode cX9_slice 162 = .ok (.bipush (-4), 2) := by decide +kernel
theorem dX9_slice_164 : decode cX9_slice 164 = .ok (.ireturn, 1) := by decide +kernel
theorem dX9_slice_165 : decode cX9_slice 165 = .ok (.aload_n 0, 1) := by decide +kernel
theorem dX9_slice_166 : decode cX9_slice 166 = .ok (.getfield 124, 3) := by decide +kernel
theorem dX9_slice_169 : decode cX9_slice 169 = .ok (.bipush 8, 2) := by decide +kernel
theorem dX9_slice_171 : decode cX9_slice 171 = .ok (.if_icmp .ne 8, 3) := by decide +kernel
theorem dX9_slice_174 : decode cX9_slice 174 = .ok (.bipush (-3), 2) := by decide +kernel
theorem dX9_slice_176 : decode cX9_slice 176 = .ok (.goto 11, 3) := by decide +kernel
theorem dX9_slice_179 : decode cX9_slice 179 = .ok (.aload_n 0, 1) := by decide +kernel
theorem dX9_slice_180 : decode cX9_slice 180 = .ok (.aload_n 0, 1) := by decide +kernel
theorem dX9_slice_181 : decode cX9_slice 181 = .ok (.getfield 74, 3) := by decide +kernel
theorem dX9_slice_184 : decode cX9_slice 184 = .ok (.invokevirtual 140, 3) := by decide +kernel
theorem dX9_slice_187 : decode cX9_slice 187 = .ok (.ireturn, 1) := by decide +kernel
set_option maxRecDepth 20000 in
theorem ggX9_within_X9_is : GoodIn wsX9_within wsX9_is := goodIn_r _ [7, 8, 9, 10, 6, 11, 20, 21, 22, 23, 24, 25, 26, 27, 28, 29, 30, 31, 32, 33, 34, 35, 36, 37, 38, 39, 40, 41, 42, 43] (by decide +kernel) (by decide +kernel)
set_option maxRecDepth 20000 in
theorem gX9_within_X9_is : GoodIn wsX9_within (wsV RX9 157 RX9 yX9_is wsX9_is) := goodIn_app (goodIn_of _ (by decide +kernel)) ggX9_within_X9_is
set_option maxRecDepth 20000 in
theorem ggX9_within_X9_where : GoodIn wsX9_within wsX9_where := goodIn_r _ [15, 2, 16, 17, 18, 19, 20, 21, 22, 23, 24, 25, 26, 27, 28, 29, 30, 31, 32, 33, 34, 35, 36, 37, 38, 39, 40, 41, 42, 43] (by decide +kernel) (by decide +kernel)
set_option maxRecDepth 20000 in
theorem gX9_within_X9_where : GoodIn wsX9_within (wsV RX9 149 RX9 yX9_where wsX9_where) := goodIn_app (goodIn_of _ (by decide +kernel)) ggX9_within_X9_where
theorem dX9_within_0 : decode cX9_within 0 = .ok (.aload_n 0, 1) := by decide +kernel
theorem dX9_within_1 : decode cX9_within 1 = .ok (.iload_n 1, 1) := by decide +kernel
theorem dX9_within_2 : decode cX9_within 2 = .ok (.invokevirtual 157, 3) := by decide +kernel
theorem dX9_within_5 : decode cX9_within 5 = .ok (.ifCond .eq 11, 3) := by decide +kernel
theorem dX9_within_8 : decode cX9_within 8 = .ok (.aload_n 0, 1) := by decide +kernel
theorem dX9_within_9 : decode cX9_within 9 = .ok (.iload_n 2, 1) := by decide +kernel
theorem dX9_within_10 : decode cX9_within 10 = .ok (.invokevirtual 157, 3) := by decide +kernel
theorem dX9_within_13 : decode cX9_within 13 = .ok (.ifCond .ne 5, 3) := by decide +kernel
theorem dX9_within_16 : decode cX9_within 16 = .ok (.iconst (-1), 1) := by decide +kernel
theorem dX9_within_17 : decode cX9_within 17 = .ok (.ireturn, 1) := by decide +kernel
theorem dX9_within_18 : decode cX9_within 18 = .ok (.iconst 1, 1) := by decide +kernel
theorem dX9_within_19 : decode cX9_within 19 = .ok (.istore_n 3, 1) := by decide +kernel
theorem dX9_within_20 : decode cX9_within 20 = .ok (.iconst 0, 1) := by decide +kernel
theorem dX9_within_21 : decode cX9_within 21 = .ok (.istore 4, 2) := by decide +kernel
theorem dX9_within_23 : decode cX9_within 23 = .ok (.iload 4, 2) := by decide +kernel
theorem dX9_within_25 : decode cX9_within 25 = .ok (.aload_n 0, 1) := by decide +kernel
theorem dX9_within_26 : decode cX9_within 26 = .ok (.getfield 26, 3) := by decide +kernel
theorem dX9_within_29 : decode cX9_within 29 = .ok (.iload_n 1, 1) := by decide +kernel
theorem dX9_within_30 : decode cX9_within 30 = .ok (.iaload, 1) := by decide +kernel
theorem dX9_within_31 : decode cX9_within 31 = .ok (.if_icmp .ge 67, 3) := by decide +kernel
theorem dX9_within_34 : decode cX9_within 34 = .ok (.bipush 120, 2) := by decide +kernel
theorem dX9_within_36 : decode cX9_within 36 = .ok (.iload_n 1, 1) := by decide +kernel
theorem dX9_within_37 : decode cX9_within 37 = .ok (.imul, 1) := by decide +kernel
theorem dX9_within_38 : decode cX9_within 38 = .ok (.iconst 3, 1) := by decide +kernel
theorem dX9_within_39 : decode cX9_within 39 = .ok (.iload 4, 2) := by decide +kernel
theorem dX9_within_41 : decode cX9_within 41 = .ok (.imul, 1) := by decide +kernel
theorem dX9_within_42 : decode cX9_within 42 = .ok (.iadd, 1) := by decide +kernel
theorem dX9_within_43 : decode cX9_within 43 = .ok (.istore 5, 2) := by decide +kernel
theorem dX9_within_45 : decode cX9_within 45 = .ok (.iload_n 3, 1) := by decide +kernel
theorem dX9_within_46 : decode cX9_within 46 = .ok (.ifCond .eq 44, 3) := by decide +kernel
theorem dX9_within_49 : decode cX9_within 49 = .ok (.aload_n 0, 1) := by decide +kernel
theorem dX9_within_50 : decode cX9_within 50 = .ok (.iload_n 2, 1) := by decide +kernel
theorem dX9_within_51 : decode cX9_within 51 = .ok (.aload_n 0, 1) := by decide +kernel
theorem dX9_within_52 : decode cX9_within 52 = .ok (.getfield 29, 3) := by decide +kernel
theorem dX9_within_55 : decode cX9_within 55 = .ok (.iload 5, 2) := by decide +kernel
theorem dX9_within_57 : decode cX9_within 57 = .ok (.iaload, 1) := by decide +kernel
theorem dX9_within_58 : decode cX9_within 58 = .ok (.i2l, 1) := by decide +kernel
theorem dX9_within_59 : decode cX9_within 59 = .ok (.aload_n 0, 1) := by decide +kernel
theorem dX9_within_60 : decode cX9_within 60 = .ok (.getfield 29, 3) := by decide +kernel
theorem dX9_within_63 : decode cX9_within 63 = .ok (.iload 5, 2) := by decide +kernel
theorem dX9_within_65 : decode cX9_within 65 = .ok (.iconst 1, 1) := by decide +kernel
theorem dX9_within_66 : decode cX9_within 66 = .ok (.iadd, 1) := by decide +kernel
theorem dX9_within_67 : decode cX9_within 67 = .ok (.iaload, 1) := by decide +kernel
theorem dX9_within_68 : decode cX9_within 68 = .ok (.i2l, 1) := by decide +kernel
theorem dX9_within_69 : decode cX9_within 69 = .ok (.aload_n 0, 1) := by decide +kernel
theorem dX9_within_70 : decode cX9_within 70 = .ok (.getfield 29, 3) := by decide +kernel
theorem dX9_within_73 : decode cX9_within 73 = .ok (.iload 5, 2) := by decide +kernel
theorem dX9_within_75 : decode cX9_within 75 = .ok (.iconst 2, 1) := by decide +kernel
theorem dX9_within_76 : decode cX9_within 76 = .ok (.iadd, 1) := by decide +kernel
theorem dX9_within_77 : decode cX9_within 77 = .ok (.iaload, 1) := by decide +kernel
theorem dX9_within_78 : decode cX9_within 78 = .ok (.i2l, 1) := by decide +kernel
theorem dX9_within_79 : decode cX9_within 79 = .ok (.lconst 1, 1) := by decide +kernel
theorem dX9_within_80 : decode cX9_within 80 = .ok (.invokevirtual 149, 3) := by decide +kernel
theorem dX9_within_83 : decode cX9_within 83 = .ok (.ifCond .le 7, 3) := by decide +kernel
theorem dX9_within_86 : decode cX9_within 86 = .ok (.iconst 1, 1) := by decide +kernel
theorem dX9_within_87 : decode cX9_within 87 = .ok (.goto 4, 3) := by decide +kernel
theorem dX9_within_90 : decode cX9_within 90 = .ok (.iconst 0, 1) := by decide +kernel
theorem dX9_within_91 : decode cX9_within 91 = .ok (.istore_n 3, 1) := by decide +kernel
theorem dX9_within_92 : decode cX9_within 92 = .ok (.iinc 4 1, 3) := by decide +kernel
theorem dX9_within_95 : decode cX9_within 95 = .ok (.goto (-72), 3) := by decide +kernel
theorem dX9_within_98 : decode cX9_within 98 = .ok (.iload_n 3, 1) := by decide +kernel
theorem dX9_within_99 : decode cX9_within 99 = .ok (.ifCond .eq 7, 3) := by decide +kernel
theorem dX9_within_102 : decode cX9_within 102 = .ok (.iconst 1, 1) := by decide +kernel
theorem dX9_within_103 : decode cX9_within 103 = .ok (.goto 4, 3) := by decide +kernel
theorem dX9_within_106 : decode cX9_within 106 = .ok (.iconst 0, 1) := by decide +kernel
theorem dX9_within_107 : decode cX9_within 107 = .ok (.ireturn, 1) := by decide +kernel
set_option maxRecDepth 20000 in
theorem ggX9_same_X9_is : GoodIn wsX9_same wsX9_is := goodIn_r _ [7, 8, 9, 10, 6, 11, 12, 13, 14, 15, 16, 17, 18, 19, 20, 21, 22, 23, 24, 25, 26, 27, 28, 29, 30, 31, 32, 33, 34, 35] (by decide +kernel) (by decide +kernel)
set_option maxRecDepth 20000 in
theorem gX9_same_X9_is : GoodIn wsX9_same (wsV RX9 157 RX9 yX9_is wsX9_is) := goodIn_app (goodIn_of _ (by decide +kernel)) ggX9_same_X9_is
theorem dX9_same_0 : decode cX9_same 0 = .ok (.aload_n 0, 1) := by decide +kernel
theorem dX9_same_1 : decode cX9_same 1 = .ok (.iload_n 1, 1) := by decide +kernel
theorem dX9_same_2 : decode cX9_same 2 = .ok (.invokevirtual 157, 3) := by decide +kernel
theorem dX9_same_5 : decode cX9_same 5 = .ok (.ifCond .eq 11, 3) := by decide +kernel
theorem dX9_same_8 : decode cX9_same 8 = .ok (.aload_n 0, 1) := by decide +kernel
theorem dX9_same_9 : decode cX9_same 9 = .ok (.iload_n 2, 1) := by decide +kernel
theorem dX9_same_10 : decode cX9_same 10 = .ok (.invokevirtual 157, 3) := by decide +kernel
theorem dX9_same_13 : decode cX9_same 13 = .ok (.ifCond .ne 5, 3) := by decide +kernel
theorem dX9_same_16 : decode cX9_same 16 = .ok (.iconst (-1), 1) := by decide +kernel
theorem dX9_same_17 : decode cX9_same 17 = .ok (.ireturn, 1) := by decide +kernel
theorem dX9_same_18 : decode cX9_same 18 = .ok (.aload_n 0, 1) := by decide +kernel
theorem dX9_same_19 : decode cX9_same 19 = .ok (.getfield 26, 3) := by decide +kernel
theorem dX9_same_22 : decode cX9_same 22 = .ok (.iload_n 1, 1) := by decide +kernel
theorem dX9_same_23 : decode cX9_same 23 = .ok (.iaload, 1) := by decide +kernel
theorem dX9_same_24 : decode cX9_same 24 = .ok (.aload_n 0, 1) := by decide +kernel
theorem dX9_same_25 : decode cX9_same 25 = .ok (.getfield 26, 3) := by decide +kernel
theorem dX9_same_28 : decode cX9_same 28 = .ok (.iload_n 2, 1) := by decide +kernel
theorem dX9_same_29 : decode cX9_same 29 = .ok (.iaload, 1) := by decide +kernel
theorem dX9_same_30 : decode cX9_same 30 = .ok (.if_icmp .ne 7, 3) := by decide +kernel
theorem dX9_same_33 : decode cX9_same 33 = .ok (.iconst 1, 1) := by decide +kernel
theorem dX9_same_34 : decode cX9_same 34 = .ok (.goto 4, 3) := by decide +kernel
theorem dX9_same_37 : decode cX9_same 37 = .ok (.iconst 0, 1) := by decide +kernel
theorem dX9_same_38 : decode cX9_same 38 = .ok (.istore_n 3, 1) := by decide +kernel
theorem dX9_same_39 : decode cX9_same 39 = .ok (.iload_n 3, 1) := by decide +kernel
theorem dX9_same_40 : decode cX9_same 40 = .ok (.istore 4, 2) := by decide +kernel
theorem dX9_same_42 : decode cX9_same 42 = .ok (.iconst 0, 1) := by decide +kernel
theorem dX9_same_43 : decode cX9_same 43 = .ok (.istore 5, 2) := by decide +kernel
theorem dX9_same_45 : decode cX9_same 45 = .ok (.iload 5, 2) := by decide +kernel
theorem dX9_same_47 : decode cX9_same 47 = .ok (.iconst 3, 1) := by decide +kernel
theorem dX9_same_48 : decode cX9_same 48 = .ok (.aload_n 0, 1) := by decide +kernel
theorem dX9_same_49 : decode cX9_same 49 = .ok (.getfield 26, 3) := by decide +kernel
theorem dX9_same_52 : decode cX9_same 52 = .ok (.iload_n 1, 1) := by decide +kernel
theorem dX9_same_53 : decode cX9_same 53 = .ok (.iaload, 1) := by decide +kernel
theorem dX9_same_54 : decode cX9_same 54 = .ok (.imul, 1) := by decide +kernel
theorem dX9_same_55 : decode cX9_same 55 = .ok (.if_icmp .ge 97, 3) := by decide +kernel
theorem dX9_same_58 : decode cX9_same 58 = .ok (.iload_n 3, 1) := by decide +kernel
theorem dX9_same_59 : decode cX9_same 59 = .ok (.ifCond .eq 93, 3) := by decide +kernel
theorem dX9_same_62 : decode cX9_same 62 = .ok (.aload_n 0, 1) := by decide +kernel
theorem dX9_same_63 : decode cX9_same 63 = .ok (.getfield 29, 3) := by decide +kernel
theorem dX9_same_66 : decode cX9_same 66 = .ok (.bipush 120, 2) := by decide +kernel
theorem dX9_same_68 : decode cX9_same 68 = .ok (.iload_n 1, 1) := by decide +kernel
theorem dX9_same_69 : decode cX9_same 69 = .ok (.imul, 1) := by decide +kernel
theorem dX9_same_70 : decode cX9_same 70 = .ok (.iload 5, 2) := by decide +kernel
theorem dX9_same_72 : decode cX9_same 72 = .ok (.iadd, 1) := by decide +kernel
theorem dX9_same_73 : decode cX9_same 73 = .ok (.iaload, 1) := by decide +kernel
theorem dX9_same_74 : decode cX9_same 74 = .ok (.aload_n 0, 1) := by decide +kernel
theorem dX9_same_75 : decode cX9_same 75 = .ok (.getfield 29, 3) := by decide +kernel
theorem dX9_same_78 : decode cX9_same 78 = .ok (.bipush 120, 2) := by decide +kernel
theorem dX9_same_80 : decode cX9_same 80 = .ok (.iload_n 2, 1) := by decide +kernel
theorem dX9_same_81 : decode cX9_same 81 = .ok (.imul, 1) := by decide +kernel
theorem dX9_same_82 : decode cX9_same 82 = .ok (.iload 5, 2) := by decide +kernel
theorem dX9_same_84 : decode cX9_same 84 = .ok (.iadd, 1) := by decide +kernel
theorem dX9_same_85 : decode cX9_same 85 = .ok (.iaload, 1) := by decide +kernel
theorem dX9_same_86 : decode cX9_same 86 = .ok (.isub, 1) := by decide +kernel
theorem dX9_same_87 : decode cX9_same 87 = .ok (.istore 6, 2) := by decide +kernel
theorem dX9_same_89 : decode cX9_same 89 = .ok (.iload 4, 2) := by decide +kernel
theorem dX9_same_91 : decode cX9_same 91 = .ok (.ifCond .eq 12, 3) := by decide +kernel
theorem dX9_same_94 : decode cX9_same 94 = .ok (.iload 6, 2) := by decide +kernel
theorem dX9_same_96 : decode cX9_same 96 = .ok (.ifCond .ne 7, 3) := by decide +kernel
theorem dX9_same_99 : decode cX9_same 99 = .ok (.iconst 1, 1) := by decide +kernel
theorem dX9_same_100 : decode cX9_same 100 = .ok (.goto 4, 3) := by decide +kernel
theorem dX9_same_103 : decode cX9_same 103 = .ok (.iconst 0, 1) := by decide +kernel
theorem dX9_same_104 : decode cX9_same 104 = .ok (.istore 4, 2) := by decide +kernel
theorem dX9_same_106 : decode cX9_same 106 = .ok (.iload 6, 2) := by decide +kernel
theorem dX9_same_108 : decode cX9_same 108 = .ok (.aload_n 0, 1) := by decide +kernel
theorem dX9_same_109 : decode cX9_same 109 = .ok (.getfield 29, 3) := by decide +kernel
theorem dX9_same_112 : decode cX9_same 112 = .ok (.bipush 120, 2) := by decide +kernel
theorem dX9_same_114 : decode cX9_same 114 = .ok (.iload_n 1, 1) := by decide +kernel
theorem dX9_same_115 : decode cX9_same 115 = .ok (.imul, 1) := by decide +kernel
theorem dX9_same_116 : decode cX9_same 116 = .ok (.iload 5, 2) := by decide +kernel
theorem dX9_same_118 : decode cX9_same 118 = .ok (.iconst 3, 1) := by decide +kernel
theorem dX9_same_119 : decode cX9_same 119 = .ok (.irem, 1) := by decide +kernel
theorem dX9_same_120 : decode cX9_same 120 = .ok (.iadd, 1) := by decide +kernel
theorem dX9_same_121 : decode cX9_same 121 = .ok (.iaload, 1) := by decide +kernel
theorem dX9_same_122 : decode cX9_same 122 = .ok (.aload_n 0, 1) := by decide +kernel
theorem dX9_same_123 : decode cX9_same 123 = .ok (.getfield 29, 3) := by decide +kernel
theorem dX9_same_126 : decode cX9_same 126 = .ok (.bipush 120, 2) := by decide +kernel
theorem dX9_same_128 : decode cX9_same 128 = .ok (.iload_n 2, 1) := by decide +kernel
theorem dX9_same_129 : decode cX9_same 129 = .ok (.imul, 1) := by decide +kernel
theorem dX9_same_130 : decode cX9_same 130 = .ok (.iload 5, 2) := by decide +kernel
theorem dX9_same_132 : decode cX9_same 132 = .ok (.iconst 3, 1) := by decide +kernel
theorem dX9_same_133 : decode cX9_same 133 = .ok (.irem, 1) := by decide +kernel
theorem dX9_same_134 : decode cX9_same 134 = .ok (.iadd, 1) := by decide +kernel
theorem dX9_same_135 : decode cX9_same 135 = .ok (.iaload, 1) := by decide +kernel
theorem dX9_same_136 : decode cX9_same 136 = .ok (.isub, 1) := by decide +kernel
theorem dX9_same_137 : decode cX9_same 137 = .ok (.if_icmp .ne 7, 3) := by decide +kernel
theorem dX9_same_140 : decode cX9_same 140 = .ok (.iconst 1, 1) := by decide +kernel
theorem dX9_same_141 : decode cX9_same 141 = .ok (.goto 4, 3) := by decide +kernel
theorem dX9_same_144 : decode cX9_same 144 = .ok (.iconst 0, 1) := by decide +kernel
theorem dX9_same_145 : decode cX9_same 145 = .ok (.istore_n 3, 1) := by decide +kernel
theorem dX9_same_146 : decode cX9_same 146 = .ok (.iinc 5 1, 3) := by decide +kernel
theorem dX9_same_149 : decode cX9_same 149 = .ok (.goto (-104), 3) := by decide +kernel
theorem dX9_same_152 : decode cX9_same 152 = .ok (.iload 4, 2) := by decide +kernel
theorem dX9_same_154 : decode cX9_same 154 = .ok (.ifCond .eq 11, 3) := by decide +kernel
theorem dX9_same_157 : decode cX9_same 157 = .ok (.iload_n 3, 1) := by decide +kernel
theorem dX9_same_158 : decode cX9_same 158 = .ok (.ifCond .eq 7, 3) := by decide +kernel
theorem dX9_same_161 : decode cX9_same 161 = .ok (.iconst 2, 1) := by decide +kernel
theorem dX9_same_162 : decode cX9_same 162 = .ok (.goto 12, 3) := by decide +kernel
theorem dX9_same_165 : decode cX9_same 165 = .ok (.iload_n 3, 1) := by decide +kernel
theorem dX9_same_166 : decode cX9_same 166 = .ok (.ifCond .eq 7, 3) := by decide +kernel
theorem dX9_same_169 : decode cX9_same 169 = .ok (.iconst 1, 1) := by decide +kernel
theorem dX9_same_170 : decode cX9_same 170 = .ok (.goto 4, 3) := by decide +kernel
theorem dX9_same_173 : decode cX9_same 173 = .ok (.iconst 0, 1) := by decide +kernel
theorem dX9_same_174 : decode cX9_same 174 = .ok (.ireturn, 1) := by decide +kernel
set_option maxRecDepth 20000 in
theorem ggX9_most_X9_is : GoodIn wsX9_most wsX9_is := goodIn_r _ [10, 11, 12, 13, 9, 14, 15, 16, 17, 18, 19, 20, 21, 22, 23, 24, 25, 26, 27, 28, 29, 30, 31, 32, 33, 34, 35, 36, 37, 38] (by decide +kernel) (by decide +kernel)
set_option maxRecDepth 20000 in
theorem gX9_most_X9_is : GoodIn wsX9_most (wsV RX9 157 RX9 yX9_is wsX9_is) := goodIn_app (goodIn_of _ (by decide +kernel)) ggX9_most_X9_is
set_option maxRecDepth 20000 in
theorem ggX9_most_X9_in : GoodIn wsX9_most wsX9_in := goodIn_r _ [14] (by decide +kernel) (by decide +kernel)
set_option maxRecDepth 20000 in
theorem gX9_most_X9_in : GoodIn wsX9_most (va_wsS RX9 60 yX9_in wsX9_in) := goodIn_app (goodIn_of _ (by decide +kernel)) ggX9_most_X9_in
theorem dX9_most_0 : decode cX9_most 0 = .ok (.aload_n 0, 1) := by decide +kernel
theorem dX9_most_1 : decode cX9_most 1 = .ok (.iload_n 1, 1) := by decide +kernel
theorem dX9_most_2 : decode cX9_most 2 = .ok (.invokevirtual 157, 3) := by decide +kernel
theorem dX9_most_5 : decode cX9_most 5 = .ok (.ifCond .eq 46, 3) := by decide +kernel
theorem dX9_most_8 : decode cX9_most 8 = .ok (.iload_n 2, 1) := by decide +kernel
theorem dX9_most_9 : decode cX9_most 9 = .ok (.i2l, 1) := by decide +kernel
theorem dX9_most_10 : decode cX9_most 10 = .ok (.ldc2_w 209, 3) := by decide +kernel
theorem dX9_most_13 : decode cX9_most 13 = .ok (.ldc2_w 211, 3) := by decide +kernel
theorem dX9_most_16 : decode cX9_most 16 = .ok (.invokestatic 60, 3) := by decide +kernel
theorem dX9_most_19 : decode cX9_most 19 = .ok (.ifCond .eq 32, 3) := by decide +kernel
theorem dX9_most_22 : decode cX9_most 22 = .ok (.iload_n 3, 1) := by decide +kernel
theorem dX9_most_23 : decode cX9_most 23 = .ok (.i2l, 1) := by decide +kernel
theorem dX9_most_24 : decode cX9_most 24 = .ok (.ldc2_w 209, 3) := by decide +kernel
theorem dX9_most_27 : decode cX9_most 27 = .ok (.ldc2_w 211, 3) := by decide +kernel
theorem dX9_most_30 : decode cX9_most 30 = .ok (.invokestatic 60, 3) := by decide +kernel
theorem dX9_most_33 : decode cX9_most 33 = .ok (.ifCond .eq 18, 3) := by decide +kernel
theorem dX9_most_36 : decode cX9_most 36 = .ok (.iload 4, 2) := by decide +kernel
theorem dX9_most_38 : decode cX9_most 38 = .ok (.i2l, 1) := by decide +kernel
theorem dX9_most_39 : decode cX9_most 39 = .ok (.ldc2_w 209, 3) := by decide +kernel
theorem dX9_most_42 : decode cX9_most 42 = .ok (.ldc2_w 211, 3) := by decide +kernel
theorem dX9_most_45 : decode cX9_most 45 = .ok (.invokestatic 60, 3) := by decide +kernel
theorem dX9_most_48 : decode cX9_most 48 = .ok (.ifCond .ne 6, 3) := by decide +kernel
theorem dX9_most_51 : decode cX9_most 51 = .ok (.ldc 177, 2) := by decide +kernel
theorem dX9_most_53 : decode cX9_most 53 = .ok (.ireturn, 1) := by decide +kernel
theorem dX9_most_54 : decode cX9_most 54 = .ok (.iconst 0, 1) := by decide +kernel
theorem dX9_most_55 : decode cX9_most 55 = .ok (.istore 6, 2) := by decide +kernel
theorem dX9_most_57 : decode cX9_most 57 = .ok (.iconst 0, 1) := by decide +kernel
theorem dX9_most_58 : decode cX9_most 58 = .ok (.istore 7, 2) := by decide +kernel
theorem dX9_most_60 : decode cX9_most 60 = .ok (.iload 7, 2) := by decide +kernel
theorem dX9_most_62 : decode cX9_most 62 = .ok (.aload_n 0, 1) := by decide +kernel
theorem dX9_most_63 : decode cX9_most 63 = .ok (.getfield 26, 3) := by decide +kernel
theorem dX9_most_66 : decode cX9_most 66 = .ok (.iload_n 1, 1) := by decide +kernel
theorem dX9_most_67 : decode cX9_most 67 = .ok (.iaload, 1) := by decide +kernel
theorem dX9_most_68 : decode cX9_most 68 = .ok (.if_icmp .ge 92, 3) := by decide +kernel
theorem dX9_most_71 : decode cX9_most 71 = .ok (.bipush 120, 2) := by decide +kernel
theorem dX9_most_73 : decode cX9_most 73 = .ok (.iload_n 1, 1) := by decide +kernel
theorem dX9_most_74 : decode cX9_most 74 = .ok (.imul, 1) := by decide +kernel
theorem dX9_most_75 : decode cX9_most 75 = .ok (.iconst 3, 1) := by decide +kernel
theorem dX9_most_76 : decode cX9_most 76 = .ok (.iload 7, 2) := by decide +kernel
theorem dX9_most_78 : decode cX9_most 78 = .ok (.imul, 1) := by decide +kernel
theorem dX9_most_79 : decode cX9_most 79 = .ok (.iadd, 1) := by decide +kernel
theorem dX9_most_80 : decode cX9_most 80 = .ok (.istore 8, 2) := by decide +kernel
theorem dX9_most_82 : decode cX9_most 82 = .ok (.iload_n 2, 1) := by decide +kernel
theorem dX9_most_83 : decode cX9_most 83 = .ok (.aload_n 0, 1) := by decide +kernel
theorem dX9_most_84 : decode cX9_most 84 = .ok (.getfield 29, 3) := by decide +kernel
theorem dX9_most_87 : decode cX9_most 87 = .ok (.iload 8, 2) := by decide +kernel
theorem dX9_most_89 : decode cX9_most 89 = .ok (.iaload, 1) := by decide +kernel
theorem dX9_most_90 : decode cX9_most 90 = .ok (.imul, 1) := by decide +kernel
theorem dX9_most_91 : decode cX9_most 91 = .ok (.iload_n 3, 1) := by decide +kernel
theorem dX9_most_92 : decode cX9_most 92 = .ok (.aload_n 0, 1) := by decide +kernel
theorem dX9_most_93 : decode cX9_most 93 = .ok (.getfield 29, 3) := by decide +kernel
theorem dX9_most_96 : decode cX9_most 96 = .ok (.iload 8, 2) := by decide +kernel
theorem dX9_most_98 : decode cX9_most 98 = .ok (.iconst 1, 1) := by decide +kernel
theorem dX9_most_99 : decode cX9_most 99 = .ok (.iadd, 1) := by decide +kernel
theorem dX9_most_100 : decode cX9_most 100 = .ok (.iaload, 1) := by decide +kernel
theorem dX9_most_101 : decode cX9_most 101 = .ok (.imul, 1) := by decide +kernel
theorem dX9_most_102 : decode cX9_most 102 = .ok (.iadd, 1) := by decide +kernel
theorem dX9_most_103 : decode cX9_most 103 = .ok (.iload 4, 2) := by decide +kernel
theorem dX9_most_105 : decode cX9_most 105 = .ok (.aload_n 0, 1) := by decide +kernel
theorem dX9_most_106 : decode cX9_most 106 = .ok (.getfield 29, 3) := by decide +kernel
theorem dX9_most_109 : decode cX9_most 109 = .ok (.iload 8, 2) := by decide +kernel
theorem dX9_most_111 : decode cX9_most 111 = .ok (.iconst 2, 1) := by decide +kernel
theorem dX9_most_112 : decode cX9_most 112 = .ok (.iadd, 1) := by decide +kernel
theorem dX9_most_113 : decode cX9_most 113 = .ok (.iaload, 1) := by decide +kernel
theorem dX9_most_114 : decode cX9_most 114 = .ok (.imul, 1) := by decide +kernel
theorem dX9_most_115 : decode cX9_most 115 = .ok (.iadd, 1) := by decide +kernel
theorem dX9_most_116 : decode cX9_most 116 = .ok (.istore 9, 2) := by decide +kernel
theorem dX9_most_118 : decode cX9_most 118 = .ok (.iload 7, 2) := by decide +kernel
theorem dX9_most_120 : decode cX9_most 120 = .ok (.ifCond .eq 25, 3) := by decide +kernel
theorem dX9_most_123 : decode cX9_most 123 = .ok (.iload 5, 2) := by decide +kernel
theorem dX9_most_125 : decode cX9_most 125 = .ok (.ifCond .eq 13, 3) := by decide +kernel
theorem dX9_most_128 : decode cX9_most 128 = .ok (.iload 9, 2) := by decide +kernel
theorem dX9_most_130 : decode cX9_most 130 = .ok (.iload 6, 2) := by decide +kernel
theorem dX9_most_132 : decode cX9_most 132 = .ok (.if_icmp .le 18, 3) := by decide +kernel
theorem dX9_most_135 : decode cX9_most 135 = .ok (.goto 10, 3) := by decide +kernel
theorem dX9_most_138 : decode cX9_most 138 = .ok (.iload 9, 2) := by decide +kernel
theorem dX9_most_140 : decode cX9_most 140 = .ok (.iload 6, 2) := by decide +kernel
theorem dX9_most_142 : decode cX9_most 142 = .ok (.if_icmp .ge 8, 3) := by decide +kernel
theorem dX9_most_145 : decode cX9_most 145 = .ok (.iload 9, 2) := by decide +kernel
theorem dX9_most_147 : decode cX9_most 147 = .ok (.goto 5, 3) := by decide +kernel
theorem dX9_most_150 : decode cX9_most 150 = .ok (.iload 6, 2) := by decide +kernel
theorem dX9_most_152 : decode cX9_most 152 = .ok (.istore 6, 2) := by decide +kernel
theorem dX9_most_154 : decode cX9_most 154 = .ok (.iinc 7 1, 3) := by decide +kernel
theorem dX9_most_157 : decode cX9_most 157 = .ok (.goto (-97), 3) := by decide +kernel
theorem dX9_most_160 : decode cX9_most 160 = .ok (.iload 6, 2) := by decide +kernel
theorem dX9_most_162 : decode cX9_most 162 = .ok (.ireturn, 1) := by decide +kernel
theorem dX9_all_0 : decode cX9_all 0 = .ok (.iload_n 1, 1) := by decide +kernel
theorem dX9_all_1 : decode cX9_all 1 = .ok (.tableswitch 60 0 2 #[27, 32, 37], 27) := by decide +kernel
theorem dX9_all_28 : decode cX9_all 28 = .ok (.aload_n 0, 1) := by decide +kernel
theorem dX9_all_29 : decode cX9_all 29 = .ok (.getfield 124, 3) := by decide +kernel
theorem dX9_all_32 : decode cX9_all 32 = .ok (.ireturn, 1) := by decide +kernel
theorem dX9_all_33 : decode cX9_all 33 = .ok (.aload_n 0, 1) := by decide +kernel
theorem dX9_all_34 : decode cX9_all 34 = .ok (.getfield 64, 3) := by decide +kernel
theorem dX9_all_37 : decode cX9_all 37 = .ok (.ireturn, 1) := by decide +kernel
theorem dX9_all_38 : decode cX9_all 38 = .ok (.aload_n 0, 1) := by decide +kernel
theorem dX9_all_39 : decode cX9_all 39 = .ok (.getfield 13, 3) := by decide +kernel
theorem dX9_all_42 : decode cX9_all 42 = .ok (.iconst 0, 1) := by decide +kernel
theorem dX9_all_43 : decode cX9_all 43 = .ok (.iaload, 1) := by decide +kernel
theorem dX9_all_44 : decode cX9_all 44 = .ok (.bipush (-4), 2) := by decide +kernel
theorem dX9_all_46 : decode cX9_all 46 = .ok (.if_icmp .ne 8, 3) := by decide +kernel
theorem dX9_all_49 : decode cX9_all 49 = .ok (.bipush (-4), 2) := by decide +kernel
theorem dX9_all_51 : decode cX9_all 51 = .ok (.goto 9, 3) := by decide +kernel
theorem dX9_all_54 : decode cX9_all 54 = .ok (.aload_n 0, 1) := by decide +kernel
theorem dX9_all_55 : decode cX9_all 55 = .ok (.getfield 16, 3) := by decide +kernel
theorem dX9_all_58 : decode cX9_all 58 = .ok (.iconst 0, 1) := by decide +kernel
theorem dX9_all_59 : decode cX9_all 59 = .ok (.iaload, 1) := by decide +kernel
theorem dX9_all_60 : decode cX9_all 60 = .ok (.ireturn, 1) := by decide +kernel
theorem dX9_all_61 : decode cX9_all 61 = .ok (.iconst (-1), 1) := by decide +kernel
theorem dX9_all_62 : decode cX9_all 62 = .ok (.ireturn, 1) := by decide +kernel
theorem dJ9_floorDiv_7cf53_0 : decode cJ9_floorDiv_7cf53 0 = .ok (.iload_n 0, 1) := by decide +kernel
theorem dJ9_floorDiv_7cf53_1 : decode cJ9_floorDiv_7cf53 1 = .ok (.iload_n 1, 1) := by decide +kernel
theorem dJ9_floorDiv_7cf53_2 : decode cJ9_floorDiv_7cf53 2 = .ok (.idiv, 1) := by decide +kernel
theorem dJ9_floorDiv_7cf53_3 : decode cJ9_floorDiv_7cf53 3 = .ok (.istore_n 2, 1) := by decide +kernel
theorem dJ9_floorDiv_7cf53_4 : decode cJ9_floorDiv_7cf53 4 = .ok (.iload_n 0, 1) := by decide +kernel
theorem dJ9_floorDiv_7cf53_5 : decode cJ9_floorDiv_7cf53 5 = .ok (.iload_n 1, 1) := by decide +kernel
theorem dJ9_floorDiv_7cf53_6 : decode cJ9_floorDiv_7cf53 6 = .ok (.ixor, 1) := by decide +kernel
theorem dJ9_floorDiv_7cf53_7 : decode cJ9_floorDiv_7cf53 7 = .ok (.ifCond .ge 14, 3) := by decide +kernel
theorem dJ9_floorDiv_7cf53_10 : decode cJ9_floorDiv_7cf53 10 = .ok (.iload_n 2, 1) := by decide +kernel
theorem dJ9_floorDiv_7cf53_11 : decode cJ9_floorDiv_7cf53 11 = .ok (.iload_n 1, 1) := by decide +kernel
theorem dJ9_floorDiv_7cf53_12 : decode cJ9_floorDiv_7cf53 12 = .ok (.imul, 1) := by decide +kernel
theorem dJ9_floorDiv_7cf53_13 : decode cJ9_floorDiv_7cf53 13 = .ok (.iload_n 0, 1) := by decide +kernel
theorem dJ9_floorDiv_7cf53_14 : decode cJ9_floorDiv_7cf53 14 = .ok (.if_icmp .eq 7, 3) := by decide +kernel
theorem dJ9_floorDiv_7cf53_17 : decode cJ9_floorDiv_7cf53 17 = .ok (.iload_n 2, 1) := by decide +kernel
theorem dJ9_floorDiv_7cf53_18 : decode cJ9_floorDiv_7cf53 18 = .ok (.iconst 1, 1) := by decide +kernel
theorem dJ9_floorDiv_7cf53_19 : decode cJ9_floorDiv_7cf53 19 = .ok (.isub, 1) := by decide +kernel
theorem dJ9_floorDiv_7cf53_20 : decode cJ9_floorDiv_7cf53 20 = .ok (.ireturn, 1) := by decide +kernel
theorem dJ9_floorDiv_7cf53_21 : decode cJ9_floorDiv_7cf53 21 = .ok (.iload_n 2, 1) := by decide +kernel
theorem dJ9_floorDiv_7cf53_22 : decode cJ9_floorDiv_7cf53 22 = .ok (.ireturn, 1) := by decide +kernel
theorem dJ9_abs_0f7a4_0 : decode cJ9_abs_0f7a4 0 = .ok (.iload_n 0, 1) := by decide +kernel
theorem dJ9_abs_0f7a4_1 : decode cJ9_abs_0f7a4 1 = .ok (.ifCond .ge 8, 3) := by decide +kernel
theorem dJ9_abs_0f7a4_4 : decode cJ9_abs_0f7a4 4 = .ok (.iload_n 0, 1) := by decide +kernel
theorem dJ9_abs_0f7a4_5 : decode cJ9_abs_0f7a4 5 = .ok (.ineg, 1) := by decide +kernel
theorem dJ9_abs_0f7a4_6 : decode cJ9_abs_0f7a4 6 = .ok (.goto 4, 3) := by decide +kernel
theorem dJ9_abs_0f7a4_9 : decode cJ9_abs_0f7a4 9 = .ok (.iload_n 0, 1) := by decide +kernel
theorem dJ9_abs_0f7a4_10 : decode cJ9_abs_0f7a4 10 = .ok (.ireturn, 1) := by decide +kernel
theorem dJ9_max_7cf53_0 : decode cJ9_max_7cf53 0 = .ok (.iload_n 0, 1) := by decide +kernel
theorem dJ9_max_7cf53_1 : decode cJ9_max_7cf53 1 = .ok (.iload_n 1, 1) := by decide +kernel
theorem dJ9_max_7cf53_2 : decode cJ9_max_7cf53 2 = .ok (.if_icmp .lt 7, 3) := by decide +kernel
theorem dJ9_max_7cf53_5 : decode cJ9_max_7cf53 5 = .ok (.iload_n 0, 1) := by decide +kernel
theorem dJ9_max_7cf53_6 : decode cJ9_max_7cf53 6 = .ok (.goto 4, 3) := by decide +kernel
theorem dJ9_max_7cf53_9 : decode cJ9_max_7cf53 9 = .ok (.iload_n 1, 1) := by decide +kernel
theorem dJ9_max_7cf53_10 : decode cJ9_max_7cf53 10 = .ok (.ireturn, 1) := by decide +kernel
theorem dJ9_min_7cf53_0 : decode cJ9_min_7cf53 0 = .ok (.iload_n 0, 1) := by decide +kernel
theorem dJ9_min_7cf53_1 : decode cJ9_min_7cf53 1 = .ok (.iload_n 1, 1) := by decide +kernel
theorem dJ9_min_7cf53_2 : decode cJ9_min_7cf53 2 = .ok (.if_icmp .gt 7, 3) := by decide +kernel
theorem dJ9_min_7cf53_5 : decode cJ9_min_7cf53 5 = .ok (.iload_n 0, 1) := by decide +kernel
theorem dJ9_min_7cf53_6 : decode cJ9_min_7cf53 6 = .ok (.goto 4, 3) := by decide +kernel
theorem dJ9_min_7cf53_9 : decode cJ9_min_7cf53 9 = .ok (.iload_n 1, 1) := by decide +kernel
theorem dJ9_min_7cf53_10 : decode cJ9_min_7cf53 10 = .ok (.ireturn, 1) := by decide +kernel
