theorem dX0_init_0 : decode cX0_init 0 = .ok (.aload_n 0, 1) := by decide +kernel
theorem dX0_init_1 : decode cX0_init 1 = .ok (.invokespecial 3, 3) := by decide +kernel
theorem dX0_init_4 : decode cX0_init 4 = .ok (.aload_n 0, 1) := by decide +kernel
theorem dX0_init_5 : decode cX0_init 5 = .ok (.iconst 3, 1) := by decide +kernel
theorem dX0_init_6 : decode cX0_init 6 = .ok (.newarray .int, 2) := by decide +kernel
theorem dX0_init_8 : decode cX0_init 8 = .ok (.putfield 9, 3) := by decide +kernel
theorem dX0_init_11 : decode cX0_init 11 = .ok (.aload_n 0, 1) := by decide +kernel
theorem dX0_init_12 : decode cX0_init 12 = .ok (.iconst 3, 1) := by decide +kernel
theorem dX0_init_13 : decode cX0_init 13 = .ok (.newarray .int, 2) := by decide +kernel
theorem dX0_init_15 : decode cX0_init 15 = .ok (.putfield 15, 3) := by decide +kernel
theorem dX0_init_18 : decode cX0_init 18 = .ok (.aload_n 0, 1) := by decide +kernel
theorem dX0_init_19 : decode cX0_init 19 = .ok (.bipush 6, 2) := by decide +kernel
theorem dX0_init_21 : decode cX0_init 21 = .ok (.anewarray 18, 3) := by decide +kernel
theorem dX0_init_24 : decode cX0_init 24 = .ok (.putfield 20, 3) := by decide +kernel
theorem dX0_init_27 : decode cX0_init 27 = .ok (.aload_n 0, 1) := by decide +kernel
theorem dX0_init_28 : decode cX0_init 28 = .ok (.iload_n 1, 1) := by decide +kernel
theorem dX0_init_29 : decode cX0_init 29 = .ok (.putfield 24, 3) := by decide +kernel
theorem dX0_init_32 : decode cX0_init 32 = .ok (.aload_n 0, 1) := by decide +kernel
theorem dX0_init_33 : decode cX0_init 33 = .ok (.iload_n 2, 1) := by decide +kernel
theorem dX0_init_34 : decode cX0_init 34 = .ok (.putfield 28, 3) := by decide +kernel
theorem dX0_init_37 : decode cX0_init 37 = .ok (.aload_n 0, 1) := by decide +kernel
theorem dX0_init_38 : decode cX0_init 38 = .ok (.aload_n 3, 1) := by decide +kernel
theorem dX0_init_39 : decode cX0_init 39 = .ok (.putfield 31, 3) := by decide +kernel
theorem dX0_init_42 : decode cX0_init 42 = .ok (.aload_n 0, 1) := by decide +kernel
theorem dX0_init_43 : decode cX0_init 43 = .ok (.aload 4, 2) := by decide +kernel
theorem dX0_init_45 : decode cX0_init 45 = .ok (.putfield 35, 3) := by decide +kernel
theorem dX0_init_48 : decode cX0_init 48 = .ok (.aload_n 0, 1) := by decide +kernel
theorem dX0_init_49 : decode cX0_init 49 = .ok (.aload 5, 2) := by decide +kernel
theorem dX0_init_51 : decode cX0_init 51 = .ok (.putfield 39, 3) := by decide +kernel
theorem dX0_init_54 : decode cX0_init 54 = .ok (.iconst 0, 1) := by decide +kernel
theorem dX0_init_55 : decode cX0_init 55 = .ok (.istore 6, 2) := by decide +kernel
theorem dX0_init_57 : decode cX0_init 57 = .ok (.iload 6, 2) := by decide +kernel
theorem dX0_init_59 : decode cX0_init 59 = .ok (.iconst 3, 1) := by decide +kernel
theorem dX0_init_60 : decode cX0_init 60 = .ok (.if_icmp .ge 105, 3) := by decide +kernel
theorem dX0_init_63 : decode cX0_init 63 = .ok (.aload_n 0, 1) := by decide +kernel
theorem dX0_init_64 : decode cX0_init 64 = .ok (.getfield 9, 3) := by decide +kernel
theorem dX0_init_67 : decode cX0_init 67 = .ok (.iload 6, 2) := by decide +kernel
theorem dX0_init_69 : decode cX0_init 69 = .ok (.aload_n 3, 1) := by decide +kernel
theorem dX0_init_70 : decode cX0_init 70 = .ok (.iconst 0, 1) := by decide +kernel
theorem dX0_init_71 : decode cX0_init 71 = .ok (.iload 6, 2) := by decide +kernel
theorem dX0_init_73 : decode cX0_init 73 = .ok (.invokevirtual 42, 3) := by decide +kernel
theorem dX0_init_76 : decode cX0_init 76 = .ok (.iastore, 1) := by decide +kernel
theorem dX0_init_77 : decode cX0_init 77 = .ok (.aload_n 0, 1) := by decide +kernel
theorem dX0_init_78 : decode cX0_init 78 = .ok (.getfield 15, 3) := by decide +kernel
theorem dX0_init_81 : decode cX0_init 81 = .ok (.iload 6, 2) := by decide +kernel
theorem dX0_init_83 : decode cX0_init 83 = .ok (.aload_n 3, 1) := by decide +kernel
theorem dX0_init_84 : decode cX0_init 84 = .ok (.iconst 0, 1) := by decide +kernel
theorem dX0_init_85 : decode cX0_init 85 = .ok (.iload 6, 2) := by decide +kernel
theorem dX0_init_87 : decode cX0_init 87 = .ok (.invokevirtual 42, 3) := by decide +kernel
theorem dX0_init_90 : decode cX0_init 90 = .ok (.iastore, 1) := by decide +kernel
theorem dX0_init_91 : decode cX0_init 91 = .ok (.iconst 1, 1) := by decide +kernel
theorem dX0_init_92 : decode cX0_init 92 = .ok (.istore 7, 2) := by decide +kernel
theorem dX0_init_94 : decode cX0_init 94 = .ok (.iload 7, 2) := by decide +kernel
theorem dX0_init_96 : decode cX0_init 96 = .ok (.aload_n 3, 1) := by decide +kernel
theorem dX0_init_97 : decode cX0_init 97 = .ok (.getfield 48, 3) := by decide +kernel
theorem dX0_init_100 : decode cX0_init 100 = .ok (.if_icmp .ge 59, 3) := by decide +kernel
theorem dX0_init_103 : decode cX0_init 103 = .ok (.aload_n 0, 1) := by decide +kernel
theorem dX0_init_104 : decode cX0_init 104 = .ok (.getfield 9, 3) := by decide +kernel
theorem dX0_init_107 : decode cX0_init 107 = .ok (.iload 6, 2) := by decide +kernel
theorem dX0_init_109 : decode cX0_init 109 = .ok (.aload_n 0, 1) := by decide +kernel
theorem dX0_init_110 : decode cX0_init 110 = .ok (.getfield 9, 3) := by decide +kernel
theorem dX0_init_113 : decode cX0_init 113 = .ok (.iload 6, 2) := by decide +kernel
theorem dX0_init_115 : decode cX0_init 115 = .ok (.iaload, 1) := by decide +kernel
theorem dX0_init_116 : decode cX0_init 116 = .ok (.aload_n 3, 1) := by decide +kernel
theorem dX0_init_117 : decode cX0_init 117 = .ok (.iload 7, 2) := by decide +kernel
theorem dX0_init_119 : decode cX0_init 119 = .ok (.iload 6, 2) := by decide +kernel
theorem dX0_init_121 : decode cX0_init 121 = .ok (.invokevirtual 42, 3) := by decide +kernel
theorem dX0_init_124 : decode cX0_init 124 = .ok (.invokestatic 51, 3) := by decide +kernel
theorem dX0_init_127 : decode cX0_init 127 = .ok (.iastore, 1) := by decide +kernel
theorem dX0_init_128 : decode cX0_init 128 = .ok (.aload_n 0, 1) := by decide +kernel
theorem dX0_init_129 : decode cX0_init 129 = .ok (.getfield 15, 3) := by decide +kernel
theorem dX0_init_132 : decode cX0_init 132 = .ok (.iload 6, 2) := by decide +kernel
theorem dX0_init_134 : decode cX0_init 134 = .ok (.aload_n 0, 1) := by decide +kernel
theorem dX0_init_135 : decode cX0_init 135 = .ok (.getfield 15, 3) := by decide +kernel
theorem dX0_init_138 : decode cX0_init 138 = .ok (.iload 6, 2) := by decide +kernel
theorem dX0_init_140 : decode cX0_init 140 = .ok (.iaload, 1) := by decide +kernel
theorem dX0_init_141 : decode cX0_init 141 = .ok (.aload_n 3, 1) := by decide +kernel
theorem dX0_init_142 : decode cX0_init 142 = .ok (.iload 7, 2) := by decide +kernel
theorem dX0_init_144 : decode cX0_init 144 = .ok (.iload 6, 2) := by decide +kernel
theorem dX0_init_146 : decode cX0_init 146 = .ok (.invokevirtual 42, 3) := by decide +kernel
theorem dX0_init_149 : decode cX0_init 149 = .ok (.invokestatic 56, 3) := by decide +kernel
theorem dX0_init_152 : decode cX0_init 152 = .ok (.iastore, 1) := by decide +kernel
theorem dX0_init_153 : decode cX0_init 153 = .ok (.iinc 7 1, 3) := by decide +kernel
theorem dX0_init_156 : decode cX0_init 156 = .ok (.goto (-62), 3) := by decide +kernel
theorem dX0_init_159 : decode cX0_init 159 = .ok (.iinc 6 1, 3) := by decide +kernel
theorem dX0_init_162 : decode cX0_init 162 = .ok (.goto (-105), 3) := by decide +kernel
theorem dX0_init_165 : decode cX0_init 165 = .ok (.return_, 1) := by decide +kernel
set_option maxRecDepth 20000 in
theorem ggX0_kind_X0_isBrick : GoodIn wsX0_kind wsX0_isBrick := goodIn_r _ [8, 9, 10, 1, 2, 11, 12, 13, 14, 15, 16, 17, 18, 19, 24, 25, 26, 27, 28, 29, 30, 31, 32, 33, 34, 35, 36] (by decide +kernel) (by decide +kernel)
set_option maxRecDepth 20000 in
theorem gX0_kind_X0_isBrick : GoodIn wsX0_kind (wsV RX0 59 RX0 yX0_isBrick wsX0_isBrick) := goodIn_app (goodIn_of _ (by decide +kernel)) ggX0_kind_X0_isBrick
set_option maxRecDepth 20000 in
theorem ggX0_kind_X0_isMirror : GoodIn wsX0_kind wsX0_isMirror := goodIn_r _ [23, 9, 10, 24, 25, 26, 27, 28, 29, 30, 31, 32] (by decide +kernel) (by decide +kernel)
set_option maxRecDepth 20000 in
theorem gX0_kind_X0_isMirror : GoodIn wsX0_kind (wsV RX0 63 RX0 yX0_isMirror wsX0_isMirror) := goodIn_app (goodIn_of _ (by decide +kernel)) ggX0_kind_X0_isMirror
theorem dX0_kind_0 : decode cX0_kind 0 = .ok (.aload_n 0, 1) := by decide +kernel
theorem dX0_kind_1 : decode cX0_kind 1 = .ok (.invokevirtual 59, 3) := by decide +kernel
theorem dX0_kind_4 : decode cX0_kind 4 = .ok (.ifCond .eq 16, 3) := by decide +kernel
theorem dX0_kind_7 : decode cX0_kind 7 = .ok (.aload_n 0, 1) := by decide +kernel
theorem dX0_kind_8 : decode cX0_kind 8 = .ok (.invokevirtual 63, 3) := by decide +kernel
theorem dX0_kind_11 : decode cX0_kind 11 = .ok (.ifCond .eq 7, 3) := by decide +kernel
theorem dX0_kind_14 : decode cX0_kind 14 = .ok (.iconst 4, 1) := by decide +kernel
theorem dX0_kind_15 : decode cX0_kind 15 = .ok (.goto 4, 3) := by decide +kernel
theorem dX0_kind_18 : decode cX0_kind 18 = .ok (.iconst 3, 1) := by decide +kernel
theorem dX0_kind_19 : decode cX0_kind 19 = .ok (.ireturn, 1) := by decide +kernel
theorem dX0_kind_20 : decode cX0_kind 20 = .ok (.aload_n 0, 1) := by decide +kernel
theorem dX0_kind_21 : decode cX0_kind 21 = .ok (.getfield 31, 3) := by decide +kernel
theorem dX0_kind_24 : decode cX0_kind 24 = .ok (.getfield 48, 3) := by decide +kernel
theorem dX0_kind_27 : decode cX0_kind 27 = .ok (.aload_n 0, 1) := by decide +kernel
theorem dX0_kind_28 : decode cX0_kind 28 = .ok (.getfield 24, 3) := by decide +kernel
theorem dX0_kind_31 : decode cX0_kind 31 = .ok (.iconst 1, 1) := by decide +kernel
theorem dX0_kind_32 : decode cX0_kind 32 = .ok (.iadd, 1) := by decide +kernel
theorem dX0_kind_33 : decode cX0_kind 33 = .ok (.if_icmp .ne 5, 3) := by decide +kernel
theorem dX0_kind_36 : decode cX0_kind 36 = .ok (.iconst 2, 1) := by decide +kernel
theorem dX0_kind_37 : decode cX0_kind 37 = .ok (.ireturn, 1) := by decide +kernel
theorem dX0_kind_38 : decode cX0_kind 38 = .ok (.aload_n 0, 1) := by decide +kernel
theorem dX0_kind_39 : decode cX0_kind 39 = .ok (.getfield 24, 3) := by decide +kernel
theorem dX0_kind_42 : decode cX0_kind 42 = .ok (.iconst 3, 1) := by decide +kernel
theorem dX0_kind_43 : decode cX0_kind 43 = .ok (.if_icmp .ge 7, 3) := by decide +kernel
theorem dX0_kind_46 : decode cX0_kind 46 = .ok (.iconst 1, 1) := by decide +kernel
theorem dX0_kind_47 : decode cX0_kind 47 = .ok (.goto 4, 3) := by decide +kernel
theorem dX0_kind_50 : decode cX0_kind 50 = .ok (.iconst 0, 1) := by decide +kernel
theorem dX0_kind_51 : decode cX0_kind 51 = .ok (.ireturn, 1) := by decide +kernel
set_option maxRecDepth 20000 in
theorem ggX0_isBrick_X4_part : GoodIn wsX0_isBrick wsX4_part := goodIn_r _ [9, 10, 11, 12, 13, 23, 24, 25, 26] (by decide +kernel) (by decide +kernel)
set_option maxRecDepth 20000 in
theorem gX0_isBrick_X4_part : GoodIn wsX0_isBrick (wsV RX0 42 RX4 yX4_part wsX4_part) := goodIn_app (goodIn_of _ (by decide +kernel)) ggX0_isBrick_X4_part
theorem dX0_isBrick_0 : decode cX0_isBrick 0 = .ok (.iconst 1, 1) := by decide +kernel
theorem dX0_isBrick_1 : decode cX0_isBrick 1 = .ok (.istore_n 1, 1) := by decide +kernel
theorem dX0_isBrick_2 : decode cX0_isBrick 2 = .ok (.iconst 0, 1) := by decide +kernel
theorem dX0_isBrick_3 : decode cX0_isBrick 3 = .ok (.istore_n 2, 1) := by decide +kernel
theorem dX0_isBrick_4 : decode cX0_isBrick 4 = .ok (.iload_n 2, 1) := by decide +kernel
theorem dX0_isBrick_5 : decode cX0_isBrick 5 = .ok (.iconst 3, 1) := by decide +kernel
theorem dX0_isBrick_6 : decode cX0_isBrick 6 = .ok (.if_icmp .ge 86, 3) := by decide +kernel
theorem dX0_isBrick_9 : decode cX0_isBrick 9 = .ok (.iload_n 1, 1) := by decide +kernel
theorem dX0_isBrick_10 : decode cX0_isBrick 10 = .ok (.aload_n 0, 1) := by decide +kernel
theorem dX0_isBrick_11 : decode cX0_isBrick 11 = .ok (.getfield 9, 3) := by decide +kernel
theorem dX0_isBrick_14 : decode cX0_isBrick 14 = .ok (.iload_n 2, 1) := by decide +kernel
theorem dX0_isBrick_15 : decode cX0_isBrick 15 = .ok (.iaload, 1) := by decide +kernel
theorem dX0_isBrick_16 : decode cX0_isBrick 16 = .ok (.aload_n 0, 1) := by decide +kernel
theorem dX0_isBrick_17 : decode cX0_isBrick 17 = .ok (.getfield 15, 3) := by decide +kernel
theorem dX0_isBrick_20 : decode cX0_isBrick 20 = .ok (.iload_n 2, 1) := by decide +kernel
theorem dX0_isBrick_21 : decode cX0_isBrick 21 = .ok (.iaload, 1) := by decide +kernel
theorem dX0_isBrick_22 : decode cX0_isBrick 22 = .ok (.if_icmp .ge 7, 3) := by decide +kernel
theorem dX0_isBrick_25 : decode cX0_isBrick 25 = .ok (.iconst 2, 1) := by decide +kernel
theorem dX0_isBrick_26 : decode cX0_isBrick 26 = .ok (.goto 4, 3) := by decide +kernel
theorem dX0_isBrick_29 : decode cX0_isBrick 29 = .ok (.iconst 1, 1) := by decide +kernel
theorem dX0_isBrick_30 : decode cX0_isBrick 30 = .ok (.imul, 1) := by decide +kernel
theorem dX0_isBrick_31 : decode cX0_isBrick 31 = .ok (.istore_n 1, 1) := by decide +kernel
theorem dX0_isBrick_32 : decode cX0_isBrick 32 = .ok (.iconst 0, 1) := by decide +kernel
theorem dX0_isBrick_33 : decode cX0_isBrick 33 = .ok (.istore_n 3, 1) := by decide +kernel
theorem dX0_isBrick_34 : decode cX0_isBrick 34 = .ok (.iload_n 3, 1) := by decide +kernel
theorem dX0_isBrick_35 : decode cX0_isBrick 35 = .ok (.aload_n 0, 1) := by decide +kernel
theorem dX0_isBrick_36 : decode cX0_isBrick 36 = .ok (.getfield 31, 3) := by decide +kernel
theorem dX0_isBrick_39 : decode cX0_isBrick 39 = .ok (.getfield 48, 3) := by decide +kernel
theorem dX0_isBrick_42 : decode cX0_isBrick 42 = .ok (.if_icmp .ge 44, 3) := by decide +kernel
theorem dX0_isBrick_45 : decode cX0_isBrick 45 = .ok (.aload_n 0, 1) := by decide +kernel
theorem dX0_isBrick_46 : decode cX0_isBrick 46 = .ok (.getfield 31, 3) := by decide +kernel
theorem dX0_isBrick_49 : decode cX0_isBrick 49 = .ok (.iload_n 3, 1) := by decide +kernel
theorem dX0_isBrick_50 : decode cX0_isBrick 50 = .ok (.iload_n 2, 1) := by decide +kernel
theorem dX0_isBrick_51 : decode cX0_isBrick 51 = .ok (.invokevirtual 42, 3) := by decide +kernel
theorem dX0_isBrick_54 : decode cX0_isBrick 54 = .ok (.istore 4, 2) := by decide +kernel
theorem dX0_isBrick_56 : decode cX0_isBrick 56 = .ok (.iload 4, 2) := by decide +kernel
theorem dX0_isBrick_58 : decode cX0_isBrick 58 = .ok (.aload_n 0, 1) := by decide +kernel
theorem dX0_isBrick_59 : decode cX0_isBrick 59 = .ok (.getfield 9, 3) := by decide +kernel
theorem dX0_isBrick_62 : decode cX0_isBrick 62 = .ok (.iload_n 2, 1) := by decide +kernel
theorem dX0_isBrick_63 : decode cX0_isBrick 63 = .ok (.iaload, 1) := by decide +kernel
theorem dX0_isBrick_64 : decode cX0_isBrick 64 = .ok (.if_icmp .eq 16, 3) := by decide +kernel
theorem dX0_isBrick_67 : decode cX0_isBrick 67 = .ok (.iload 4, 2) := by decide +kernel
theorem dX0_isBrick_69 : decode cX0_isBrick 69 = .ok (.aload_n 0, 1) := by decide +kernel
theorem dX0_isBrick_70 : decode cX0_isBrick 70 = .ok (.getfield 15, 3) := by decide +kernel
theorem dX0_isBrick_73 : decode cX0_isBrick 73 = .ok (.iload_n 2, 1) := by decide +kernel
theorem dX0_isBrick_74 : decode cX0_isBrick 74 = .ok (.iaload, 1) := by decide +kernel
theorem dX0_isBrick_75 : decode cX0_isBrick 75 = .ok (.if_icmp .eq 5, 3) := by decide +kernel
theorem dX0_isBrick_78 : decode cX0_isBrick 78 = .ok (.iconst 0, 1) := by decide +kernel
theorem dX0_isBrick_79 : decode cX0_isBrick 79 = .ok (.ireturn, 1) := by decide +kernel
theorem dX0_isBrick_80 : decode cX0_isBrick 80 = .ok (.iinc 3 1, 3) := by decide +kernel
theorem dX0_isBrick_83 : decode cX0_isBrick 83 = .ok (.goto (-49), 3) := by decide +kernel
theorem dX0_isBrick_86 : decode cX0_isBrick 86 = .ok (.iinc 2 1, 3) := by decide +kernel
theorem dX0_isBrick_89 : decode cX0_isBrick 89 = .ok (.goto (-85), 3) := by decide +kernel
theorem dX0_isBrick_92 : decode cX0_isBrick 92 = .ok (.aload_n 0, 1) := by decide +kernel
theorem dX0_isBrick_93 : decode cX0_isBrick 93 = .ok (.getfield 31, 3) := by decide +kernel
theorem dX0_isBrick_96 : decode cX0_isBrick 96 = .ok (.getfield 48, 3) := by decide +kernel
theorem dX0_isBrick_99 : decode cX0_isBrick 99 = .ok (.iload_n 1, 1) := by decide +kernel
theorem dX0_isBrick_100 : decode cX0_isBrick 100 = .ok (.if_icmp .ne 7, 3) := by decide +kernel
theorem dX0_isBrick_103 : decode cX0_isBrick 103 = .ok (.iconst 1, 1) := by decide +kernel
theorem dX0_isBrick_104 : decode cX0_isBrick 104 = .ok (.goto 4, 3) := by decide +kernel
theorem dX0_isBrick_107 : decode cX0_isBrick 107 = .ok (.iconst 0, 1) := by decide +kernel
theorem dX0_isBrick_108 : decode cX0_isBrick 108 = .ok (.ireturn, 1) := by decide +kernel
theorem dX0_isMirror_0 : decode cX0_isMirror 0 = .ok (.iconst 0, 1) := by decide +kernel
theorem dX0_isMirror_1 : decode cX0_isMirror 1 = .ok (.istore_n 1, 1) := by decide +kernel
theorem dX0_isMirror_2 : decode cX0_isMirror 2 = .ok (.iload_n 1, 1) := by decide +kernel
theorem dX0_isMirror_3 : decode cX0_isMirror 3 = .ok (.iconst 3, 1) := by decide +kernel
theorem dX0_isMirror_4 : decode cX0_isMirror 4 = .ok (.if_icmp .ge 27, 3) := by decide +kernel
theorem dX0_isMirror_7 : decode cX0_isMirror 7 = .ok (.aload_n 0, 1) := by decide +kernel
theorem dX0_isMirror_8 : decode cX0_isMirror 8 = .ok (.getfield 9, 3) := by decide +kernel
theorem dX0_isMirror_11 : decode cX0_isMirror 11 = .ok (.iload_n 1, 1) := by decide +kernel
theorem dX0_isMirror_12 : decode cX0_isMirror 12 = .ok (.iaload, 1) := by decide +kernel
theorem dX0_isMirror_13 : decode cX0_isMirror 13 = .ok (.aload_n 0, 1) := by decide +kernel
theorem dX0_isMirror_14 : decode cX0_isMirror 14 = .ok (.getfield 15, 3) := by decide +kernel
theorem dX0_isMirror_17 : decode cX0_isMirror 17 = .ok (.iload_n 1, 1) := by decide +kernel
theorem dX0_isMirror_18 : decode cX0_isMirror 18 = .ok (.iaload, 1) := by decide +kernel
theorem dX0_isMirror_19 : decode cX0_isMirror 19 = .ok (.ineg, 1) := by decide +kernel
theorem dX0_isMirror_20 : decode cX0_isMirror 20 = .ok (.if_icmp .eq 5, 3) := by decide +kernel
theorem dX0_isMirror_23 : decode cX0_isMirror 23 = .ok (.iconst 0, 1) := by decide +kernel
theorem dX0_isMirror_24 : decode cX0_isMirror 24 = .ok (.ireturn, 1) := by decide +kernel
theorem dX0_isMirror_25 : decode cX0_isMirror 25 = .ok (.iinc 1 1, 3) := by decide +kernel
theorem dX0_isMirror_28 : decode cX0_isMirror 28 = .ok (.goto (-26), 3) := by decide +kernel
theorem dX0_isMirror_31 : decode cX0_isMirror 31 = .ok (.iconst 1, 1) := by decide +kernel
theorem dX0_isMirror_32 : decode cX0_isMirror 32 = .ok (.ireturn, 1) := by decide +kernel
set_option maxRecDepth 20000 in
theorem ggX0_cornersOn_X1_excess : GoodIn wsX0_cornersOn wsX1_excess := goodIn_r _ [11, 12, 13, 14, 15, 29, 30, 31, 32, 33] (by decide +kernel) (by decide +kernel)
set_option maxRecDepth 20000 in
theorem gX0_cornersOn_X1_excess : GoodIn wsX0_cornersOn (wsV RX0 75 RX1 yX1_excess wsX1_excess) := goodIn_app (goodIn_of _ (by decide +kernel)) ggX0_cornersOn_X1_excess
theorem dX0_cornersOn_0 : decode cX0_cornersOn 0 = .ok (.iconst 0, 1) := by decide +kernel
theorem dX0_cornersOn_1 : decode cX0_cornersOn 1 = .ok (.istore_n 2, 1) := by decide +kernel
theorem dX0_cornersOn_2 : decode cX0_cornersOn 2 = .ok (.iconst 0, 1) := by decide +kernel
theorem dX0_cornersOn_3 : decode cX0_cornersOn 3 = .ok (.istore_n 3, 1) := by decide +kernel
theorem dX0_cornersOn_4 : decode cX0_cornersOn 4 = .ok (.iload_n 3, 1) := by decide +kernel
theorem dX0_cornersOn_5 : decode cX0_cornersOn 5 = .ok (.aload_n 0, 1) := by decide +kernel
theorem dX0_cornersOn_6 : decode cX0_cornersOn 6 = .ok (.getfield 31, 3) := by decide +kernel
theorem dX0_cornersOn_9 : decode cX0_cornersOn 9 = .ok (.getfield 48, 3) := by decide +kernel
theorem dX0_cornersOn_12 : decode cX0_cornersOn 12 = .ok (.if_icmp .ge 56, 3) := by decide +kernel
theorem dX0_cornersOn_15 : decode cX0_cornersOn 15 = .ok (.aload_n 0, 1) := by decide +kernel
theorem dX0_cornersOn_16 : decode cX0_cornersOn 16 = .ok (.getfield 35, 3) := by decide +kernel
theorem dX0_cornersOn_19 : decode cX0_cornersOn 19 = .ok (.iload_n 1, 1) := by decide +kernel
theorem dX0_cornersOn_20 : decode cX0_cornersOn 20 = .ok (.aload_n 0, 1) := by decide +kernel
theorem dX0_cornersOn_21 : decode cX0_cornersOn 21 = .ok (.getfield 31, 3) := by decide +kernel
theorem dX0_cornersOn_24 : decode cX0_cornersOn 24 = .ok (.getfield 66, 3) := by decide +kernel
theorem dX0_cornersOn_27 : decode cX0_cornersOn 27 = .ok (.iload_n 3, 1) := by decide +kernel
theorem dX0_cornersOn_28 : decode cX0_cornersOn 28 = .ok (.iaload, 1) := by decide +kernel
theorem dX0_cornersOn_29 : decode cX0_cornersOn 29 = .ok (.i2l, 1) := by decide +kernel
theorem dX0_cornersOn_30 : decode cX0_cornersOn 30 = .ok (.aload_n 0, 1) := by decide +kernel
theorem dX0_cornersOn_31 : decode cX0_cornersOn 31 = .ok (.getfield 31, 3) := by decide +kernel
theorem dX0_cornersOn_34 : decode cX0_cornersOn 34 = .ok (.getfield 69, 3) := by decide +kernel
theorem dX0_cornersOn_37 : decode cX0_cornersOn 37 = .ok (.iload_n 3, 1) := by decide +kernel
theorem dX0_cornersOn_38 : decode cX0_cornersOn 38 = .ok (.iaload, 1) := by decide +kernel
theorem dX0_cornersOn_39 : decode cX0_cornersOn 39 = .ok (.i2l, 1) := by decide +kernel
theorem dX0_cornersOn_40 : decode cX0_cornersOn 40 = .ok (.aload_n 0, 1) := by decide +kernel
theorem dX0_cornersOn_41 : decode cX0_cornersOn 41 = .ok (.getfield 31, 3) := by decide +kernel
theorem dX0_cornersOn_44 : decode cX0_cornersOn 44 = .ok (.getfield 72, 3) := by decide +kernel
theorem dX0_cornersOn_47 : decode cX0_cornersOn 47 = .ok (.iload_n 3, 1) := by decide +kernel
theorem dX0_cornersOn_48 : decode cX0_cornersOn 48 = .ok (.iaload, 1) := by decide +kernel
theorem dX0_cornersOn_49 : decode cX0_cornersOn 49 = .ok (.i2l, 1) := by decide +kernel
theorem dX0_cornersOn_50 : decode cX0_cornersOn 50 = .ok (.lconst 1, 1) := by decide +kernel
theorem dX0_cornersOn_51 : decode cX0_cornersOn 51 = .ok (.invokevirtual 75, 3) := by decide +kernel
theorem dX0_cornersOn_54 : decode cX0_cornersOn 54 = .ok (.lconst 0, 1) := by decide +kernel
theorem dX0_cornersOn_55 : decode cX0_cornersOn 55 = .ok (.lcmp, 1) := by decide +kernel
theorem dX0_cornersOn_56 : decode cX0_cornersOn 56 = .ok (.ifCond .ne 6, 3) := by decide +kernel
theorem dX0_cornersOn_59 : decode cX0_cornersOn 59 = .ok (.iinc 2 1, 3) := by decide +kernel
theorem dX0_cornersOn_62 : decode cX0_cornersOn 62 = .ok (.iinc 3 1, 3) := by decide +kernel
theorem dX0_cornersOn_65 : decode cX0_cornersOn 65 = .ok (.goto (-61), 3) := by decide +kernel
theorem dX0_cornersOn_68 : decode cX0_cornersOn 68 = .ok (.iload_n 2, 1) := by decide +kernel
theorem dX0_cornersOn_69 : decode cX0_cornersOn 69 = .ok (.ireturn, 1) := by decide +kernel
set_option maxRecDepth 20000 in
theorem ggX0_placeOf_X1_excess : GoodIn wsX0_placeOf wsX1_excess := goodIn_r _ [8, 9, 10, 11, 12, 22, 23, 24, 25, 26] (by decide +kernel) (by decide +kernel)
set_option maxRecDepth 20000 in
theorem gX0_placeOf_X1_excess : GoodIn wsX0_placeOf (wsV RX0 75 RX1 yX1_excess wsX1_excess) := goodIn_app (goodIn_of _ (by decide +kernel)) ggX0_placeOf_X1_excess
theorem dX0_placeOf_0 : decode cX0_placeOf 0 = .ok (.iconst 0, 1) := by decide +kernel
theorem dX0_placeOf_1 : decode cX0_placeOf 1 = .ok (.istore 5, 2) := by decide +kernel
theorem dX0_placeOf_3 : decode cX0_placeOf 3 = .ok (.iload 5, 2) := by decide +kernel
theorem dX0_placeOf_5 : decode cX0_placeOf 5 = .ok (.aload_n 0, 1) := by decide +kernel
theorem dX0_placeOf_6 : decode cX0_placeOf 6 = .ok (.getfield 39, 3) := by decide +kernel
theorem dX0_placeOf_9 : decode cX0_placeOf 9 = .ok (.getfield 81, 3) := by decide +kernel
theorem dX0_placeOf_12 : decode cX0_placeOf 12 = .ok (.if_icmp .ge 34, 3) := by decide +kernel
theorem dX0_placeOf_15 : decode cX0_placeOf 15 = .ok (.aload_n 0, 1) := by decide +kernel
theorem dX0_placeOf_16 : decode cX0_placeOf 16 = .ok (.getfield 39, 3) := by decide +kernel
theorem dX0_placeOf_19 : decode cX0_placeOf 19 = .ok (.iload 5, 2) := by decide +kernel
theorem dX0_placeOf_21 : decode cX0_placeOf 21 = .ok (.iload_n 1, 1) := by decide +kernel
theorem dX0_placeOf_22 : decode cX0_placeOf 22 = .ok (.i2l, 1) := by decide +kernel
theorem dX0_placeOf_23 : decode cX0_placeOf 23 = .ok (.iload_n 2, 1) := by decide +kernel
theorem dX0_placeOf_24 : decode cX0_placeOf 24 = .ok (.i2l, 1) := by decide +kernel
theorem dX0_placeOf_25 : decode cX0_placeOf 25 = .ok (.iload_n 3, 1) := by decide +kernel
theorem dX0_placeOf_26 : decode cX0_placeOf 26 = .ok (.i2l, 1) := by decide +kernel
theorem dX0_placeOf_27 : decode cX0_placeOf 27 = .ok (.iload 4, 2) := by decide +kernel
theorem dX0_placeOf_29 : decode cX0_placeOf 29 = .ok (.i2l, 1) := by decide +kernel
theorem dX0_placeOf_30 : decode cX0_placeOf 30 = .ok (.invokevirtual 75, 3) := by decide +kernel
theorem dX0_placeOf_33 : decode cX0_placeOf 33 = .ok (.lconst 0, 1) := by decide +kernel
theorem dX0_placeOf_34 : decode cX0_placeOf 34 = .ok (.lcmp, 1) := by decide +kernel
theorem dX0_placeOf_35 : decode cX0_placeOf 35 = .ok (.ifCond .eq 5, 3) := by decide +kernel
theorem dX0_placeOf_38 : decode cX0_placeOf 38 = .ok (.iconst 0, 1) := by decide +kernel
theorem dX0_placeOf_39 : decode cX0_placeOf 39 = .ok (.ireturn, 1) := by decide +kernel
theorem dX0_placeOf_40 : decode cX0_placeOf 40 = .ok (.iinc 5 1, 3) := by decide +kernel
theorem dX0_placeOf_43 : decode cX0_placeOf 43 = .ok (.goto (-40), 3) := by decide +kernel
theorem dX0_placeOf_46 : decode cX0_placeOf 46 = .ok (.iconst 2, 1) := by decide +kernel
theorem dX0_placeOf_47 : decode cX0_placeOf 47 = .ok (.istore 5, 2) := by decide +kernel
theorem dX0_placeOf_49 : decode cX0_placeOf 49 = .ok (.iconst 0, 1) := by decide +kernel
theorem dX0_placeOf_50 : decode cX0_placeOf 50 = .ok (.istore 6, 2) := by decide +kernel
theorem dX0_placeOf_52 : decode cX0_placeOf 52 = .ok (.iload 6, 2) := by decide +kernel
theorem dX0_placeOf_54 : decode cX0_placeOf 54 = .ok (.aload_n 0, 1) := by decide +kernel
theorem dX0_placeOf_55 : decode cX0_placeOf 55 = .ok (.getfield 35, 3) := by decide +kernel
theorem dX0_placeOf_58 : decode cX0_placeOf 58 = .ok (.getfield 81, 3) := by decide +kernel
theorem dX0_placeOf_61 : decode cX0_placeOf 61 = .ok (.if_icmp .ge 48, 3) := by decide +kernel
theorem dX0_placeOf_64 : decode cX0_placeOf 64 = .ok (.aload_n 0, 1) := by decide +kernel
theorem dX0_placeOf_65 : decode cX0_placeOf 65 = .ok (.getfield 35, 3) := by decide +kernel
theorem dX0_placeOf_68 : decode cX0_placeOf 68 = .ok (.iload 6, 2) := by decide +kernel
theorem dX0_placeOf_70 : decode cX0_placeOf 70 = .ok (.iload_n 1, 1) := by decide +kernel
theorem dX0_placeOf_71 : decode cX0_placeOf 71 = .ok (.i2l, 1) := by decide +kernel
theorem dX0_placeOf_72 : decode cX0_placeOf 72 = .ok (.iload_n 2, 1) := by decide +kernel
theorem dX0_placeOf_73 : decode cX0_placeOf 73 = .ok (.i2l, 1) := by decide +kernel
theorem dX0_placeOf_74 : decode cX0_placeOf 74 = .ok (.iload_n 3, 1) := by decide +kernel
theorem dX0_placeOf_75 : decode cX0_placeOf 75 = .ok (.i2l, 1) := by decide +kernel
theorem dX0_placeOf_76 : decode cX0_placeOf 76 = .ok (.iload 4, 2) := by decide +kernel
theorem dX0_placeOf_78 : decode cX0_placeOf 78 = .ok (.i2l, 1) := by decide +kernel
theorem dX0_placeOf_79 : decode cX0_placeOf 79 = .ok (.invokevirtual 75, 3) := by decide +kernel
theorem dX0_placeOf_82 : decode cX0_placeOf 82 = .ok (.lstore 7, 2) := by decide +kernel
theorem dX0_placeOf_84 : decode cX0_placeOf 84 = .ok (.lload 7, 2) := by decide +kernel
theorem dX0_placeOf_86 : decode cX0_placeOf 86 = .ok (.lconst 0, 1) := by decide +kernel
theorem dX0_placeOf_87 : decode cX0_placeOf 87 = .ok (.lcmp, 1) := by decide +kernel
theorem dX0_placeOf_88 : decode cX0_placeOf 88 = .ok (.ifCond .le 5, 3) := by decide +kernel
theorem dX0_placeOf_91 : decode cX0_placeOf 91 = .ok (.iconst 0, 1) := by decide +kernel
theorem dX0_placeOf_92 : decode cX0_placeOf 92 = .ok (.ireturn, 1) := by decide +kernel
theorem dX0_placeOf_93 : decode cX0_placeOf 93 = .ok (.lload 7, 2) := by decide +kernel
theorem dX0_placeOf_95 : decode cX0_placeOf 95 = .ok (.lconst 0, 1) := by decide +kernel
theorem dX0_placeOf_96 : decode cX0_placeOf 96 = .ok (.lcmp, 1) := by decide +kernel
theorem dX0_placeOf_97 : decode cX0_placeOf 97 = .ok (.ifCond .ne 6, 3) := by decide +kernel
theorem dX0_placeOf_100 : decode cX0_placeOf 100 = .ok (.iconst 1, 1) := by decide +kernel
theorem dX0_placeOf_101 : decode cX0_placeOf 101 = .ok (.istore 5, 2) := by decide +kernel
theorem dX0_placeOf_103 : decode cX0_placeOf 103 = .ok (.iinc 6 1, 3) := by decide +kernel
theorem dX0_placeOf_106 : decode cX0_placeOf 106 = .ok (.goto (-54), 3) := by decide +kernel
theorem dX0_placeOf_109 : decode cX0_placeOf 109 = .ok (.iload 5, 2) := by decide +kernel
theorem dX0_placeOf_111 : decode cX0_placeOf 111 = .ok (.ireturn, 1) := by decide +kernel
set_option maxRecDepth 20000 in
theorem ggX0_holds_X0_placeOf : GoodIn wsX0_holds wsX0_placeOf := goodIn_r _ [9, 10, 11, 12, 13, 14, 15, 16, 17, 18, 19, 20, 21, 26, 27, 28, 29, 30, 31, 32, 33, 34, 35, 36, 37, 38, 39] (by decide +kernel) (by decide +kernel)
set_option maxRecDepth 20000 in
theorem gX0_holds_X0_placeOf : GoodIn wsX0_holds (wsV RX0 82 RX0 yX0_placeOf wsX0_placeOf) := goodIn_app (goodIn_of _ (by decide +kernel)) ggX0_holds_X0_placeOf
theorem dX0_holds_0 : decode cX0_holds 0 = .ok (.iconst 0, 1) := by decide +kernel
theorem dX0_holds_1 : decode cX0_holds 1 = .ok (.istore_n 2, 1) := by decide +kernel
theorem dX0_holds_2 : decode cX0_holds 2 = .ok (.iload_n 2, 1) := by decide +kernel
theorem dX0_holds_3 : decode cX0_holds 3 = .ok (.aload_n 1, 1) := by decide +kernel
theorem dX0_holds_4 : decode cX0_holds 4 = .ok (.getfield 48, 3) := by decide +kernel
theorem dX0_holds_7 : decode cX0_holds 7 = .ok (.if_icmp .ge 37, 3) := by decide +kernel
theorem dX0_holds_10 : decode cX0_holds 10 = .ok (.aload_n 0, 1) := by decide +kernel
theorem dX0_holds_11 : decode cX0_holds 11 = .ok (.aload_n 1, 1) := by decide +kernel
theorem dX0_holds_12 : decode cX0_holds 12 = .ok (.getfield 66, 3) := by decide +kernel
theorem dX0_holds_15 : decode cX0_holds 15 = .ok (.iload_n 2, 1) := by decide +kernel
theorem dX0_holds_16 : decode cX0_holds 16 = .ok (.iaload, 1) := by decide +kernel
theorem dX0_holds_17 : decode cX0_holds 17 = .ok (.aload_n 1, 1) := by decide +kernel
theorem dX0_holds_18 : decode cX0_holds 18 = .ok (.getfield 69, 3) := by decide +kernel
theorem dX0_holds_21 : decode cX0_holds 21 = .ok (.iload_n 2, 1) := by decide +kernel
theorem dX0_holds_22 : decode cX0_holds 22 = .ok (.iaload, 1) := by decide +kernel
theorem dX0_holds_23 : decode cX0_holds 23 = .ok (.aload_n 1, 1) := by decide +kernel
theorem dX0_holds_24 : decode cX0_holds 24 = .ok (.getfield 72, 3) := by decide +kernel
theorem dX0_holds_27 : decode cX0_holds 27 = .ok (.iload_n 2, 1) := by decide +kernel
theorem dX0_holds_28 : decode cX0_holds 28 = .ok (.iaload, 1) := by decide +kernel
theorem dX0_holds_29 : decode cX0_holds 29 = .ok (.iconst 1, 1) := by decide +kernel
theorem dX0_holds_30 : decode cX0_holds 30 = .ok (.invokevirtual 82, 3) := by decide +kernel
theorem dX0_holds_33 : decode cX0_holds 33 = .ok (.ifCond .ne 5, 3) := by decide +kernel
theorem dX0_holds_36 : decode cX0_holds 36 = .ok (.iconst 0, 1) := by decide +kernel
theorem dX0_holds_37 : decode cX0_holds 37 = .ok (.ireturn, 1) := by decide +kernel
theorem dX0_holds_38 : decode cX0_holds 38 = .ok (.iinc 2 1, 3) := by decide +kernel
theorem dX0_holds_41 : decode cX0_holds 41 = .ok (.goto (-39), 3) := by decide +kernel
theorem dX0_holds_44 : decode cX0_holds 44 = .ok (.iconst 1, 1) := by decide +kernel
theorem dX0_holds_45 : decode cX0_holds 45 = .ok (.ireturn, 1) := by decide +kernel
theorem dX0_greatestOf_0 : decode cX0_greatestOf 0 = .ok (.sipush (-1500), 3) := by decide +kernel
theorem dX0_greatestOf_3 : decode cX0_greatestOf 3 = .ok (.istore 4, 2) := by decide +kernel
theorem dX0_greatestOf_5 : decode cX0_greatestOf 5 = .ok (.iconst 0, 1) := by decide +kernel
theorem dX0_greatestOf_6 : decode cX0_greatestOf 6 = .ok (.istore 5, 2) := by decide +kernel
theorem dX0_greatestOf_8 : decode cX0_greatestOf 8 = .ok (.iload 5, 2) := by decide +kernel
theorem dX0_greatestOf_10 : decode cX0_greatestOf 10 = .ok (.aload_n 0, 1) := by decide +kernel
theorem dX0_greatestOf_11 : decode cX0_greatestOf 11 = .ok (.getfield 31, 3) := by decide +kernel
theorem dX0_greatestOf_14 : decode cX0_greatestOf 14 = .ok (.getfield 48, 3) := by decide +kernel
theorem dX0_greatestOf_17 : decode cX0_greatestOf 17 = .ok (.if_icmp .ge 54, 3) := by decide +kernel
theorem dX0_greatestOf_20 : decode cX0_greatestOf 20 = .ok (.iload 4, 2) := by decide +kernel
theorem dX0_greatestOf_22 : decode cX0_greatestOf 22 = .ok (.iload_n 1, 1) := by decide +kernel
theorem dX0_greatestOf_23 : decode cX0_greatestOf 23 = .ok (.aload_n 0, 1) := by decide +kernel
theorem dX0_greatestOf_24 : decode cX0_greatestOf 24 = .ok (.getfield 31, 3) := by decide +kernel
theorem dX0_greatestOf_27 : decode cX0_greatestOf 27 = .ok (.getfield 66, 3) := by decide +kernel
theorem dX0_greatestOf_30 : decode cX0_greatestOf 30 = .ok (.iload 5, 2) := by decide +kernel
theorem dX0_greatestOf_32 : decode cX0_greatestOf 32 = .ok (.iaload, 1) := by decide +kernel
theorem dX0_greatestOf_33 : decode cX0_greatestOf 33 = .ok (.imul, 1) := by decide +kernel
theorem dX0_greatestOf_34 : decode cX0_greatestOf 34 = .ok (.iload_n 2, 1) := by decide +kernel
theorem dX0_greatestOf_35 : decode cX0_greatestOf 35 = .ok (.aload_n 0, 1) := by decide +kernel
theorem dX0_greatestOf_36 : decode cX0_greatestOf 36 = .ok (.getfield 31, 3) := by decide +kernel
theorem dX0_greatestOf_39 : decode cX0_greatestOf 39 = .ok (.getfield 69, 3) := by decide +kernel
theorem dX0_greatestOf_42 : decode cX0_greatestOf 42 = .ok (.iload 5, 2) := by decide +kernel
theorem dX0_greatestOf_44 : decode cX0_greatestOf 44 = .ok (.iaload, 1) := by decide +kernel
theorem dX0_greatestOf_45 : decode cX0_greatestOf 45 = .ok (.imul, 1) := by decide +kernel
theorem dX0_greatestOf_46 : decode cX0_greatestOf 46 = .ok (.iadd, 1) := by decide +kernel
theorem dX0_greatestOf_47 : decode cX0_greatestOf 47 = .ok (.iload_n 3, 1) := by decide +kernel
theorem dX0_greatestOf_48 : decode cX0_greatestOf 48 = .ok (.aload_n 0, 1) := by decide +kernel
theorem dX0_greatestOf_49 : decode cX0_greatestOf 49 = .ok (.getfield 31, 3) := by decide +kernel
theorem dX0_greatestOf_52 : decode cX0_greatestOf 52 = .ok (.getfield 72, 3) := by decide +kernel
theorem dX0_greatestOf_55 : decode cX0_greatestOf 55 = .ok (.iload 5, 2) := by decide +kernel
theorem dX0_greatestOf_57 : decode cX0_greatestOf 57 = .ok (.iaload, 1) := by decide +kernel
theorem dX0_greatestOf_58 : decode cX0_greatestOf 58 = .ok (.imul, 1) := by decide +kernel
theorem dX0_greatestOf_59 : decode cX0_greatestOf 59 = .ok (.iadd, 1) := by decide +kernel
theorem dX0_greatestOf_60 : decode cX0_greatestOf 60 = .ok (.invokestatic 56, 3) := by decide +kernel
theorem dX0_greatestOf_63 : decode cX0_greatestOf 63 = .ok (.istore 4, 2) := by decide +kernel
theorem dX0_greatestOf_65 : decode cX0_greatestOf 65 = .ok (.iinc 5 1, 3) := by decide +kernel
theorem dX0_greatestOf_68 : decode cX0_greatestOf 68 = .ok (.goto (-60), 3) := by decide +kernel
theorem dX0_greatestOf_71 : decode cX0_greatestOf 71 = .ok (.iload 4, 2) := by decide +kernel
theorem dX0_greatestOf_73 : decode cX0_greatestOf 73 = .ok (.ireturn, 1) := by decide +kernel
set_option maxRecDepth 20000 in
theorem ggX0_swelling_X7_init : GoodIn wsX0_swelling wsX7_init := goodIn_r _ [18, 19, 20, 21, 22, 23, 24, 25, 26, 27, 28, 29, 30, 31, 2, 3, 4, 32, 33, 34, 35, 36, 11, 37, 38, 39, 40, 41, 42, 43, 44, 45, 46, 47, 48, 49, 50, 51, 52, 53, 6, 7, 54, 55, 56, 57, 58, 59, 60, 61, 71, 72, 73, 74, 75, 76, 77, 78, 79, 80, 81, 82, 83, 84, 85, 86, 87] (by decide +kernel) (by decide +kernel)
set_option maxRecDepth 20000 in
theorem gX0_swelling_X7_init : GoodIn wsX0_swelling (wsX7_init) := ggX0_swelling_X7_init
theorem dX0_swelling_0 : decode cX0_swelling 0 = .ok (.iload_n 1, 1) := by decide +kernel
theorem dX0_swelling_1 : decode cX0_swelling 1 = .ok (.iconst 1, 1) := by decide +kernel
theorem dX0_swelling_2 : decode cX0_swelling 2 = .ok (.invokestatic 56, 3) := by decide +kernel
theorem dX0_swelling_5 : decode cX0_swelling 5 = .ok (.iconst 5, 1) := by decide +kernel
theorem dX0_swelling_6 : decode cX0_swelling 6 = .ok (.invokestatic 51, 3) := by decide +kernel
theorem dX0_swelling_9 : decode cX0_swelling 9 = .ok (.istore_n 2, 1) := by decide +kernel
theorem dX0_swelling_10 : decode cX0_swelling 10 = .ok (.aload_n 0, 1) := by decide +kernel
theorem dX0_swelling_11 : decode cX0_swelling 11 = .ok (.getfield 20, 3) := by decide +kernel
theorem dX0_swelling_14 : decode cX0_swelling 14 = .ok (.iload_n 2, 1) := by decide +kernel
theorem dX0_swelling_15 : decode cX0_swelling 15 = .ok (.aaload, 1) := by decide +kernel
theorem dX0_swelling_16 : decode cX0_swelling 16 = .ok (.ifnonnull 33, 3) := by decide +kernel
theorem dX0_swelling_19 : decode cX0_swelling 19 = .ok (.aload_n 0, 1) := by decide +kernel
theorem dX0_swelling_20 : decode cX0_swelling 20 = .ok (.getfield 20, 3) := by decide +kernel
theorem dX0_swelling_23 : decode cX0_swelling 23 = .ok (.iload_n 2, 1) := by decide +kernel
theorem dX0_swelling_24 : decode cX0_swelling 24 = .ok (.new 18, 3) := by decide +kernel
theorem dX0_swelling_27 : decode cX0_swelling 27 = .ok (.dup, 1) := by decide +kernel
theorem dX0_swelling_28 : decode cX0_swelling 28 = .ok (.aload_n 0, 1) := by decide +kernel
theorem dX0_swelling_29 : decode cX0_swelling 29 = .ok (.getfield 35, 3) := by decide +kernel
theorem dX0_swelling_32 : decode cX0_swelling 32 = .ok (.aload_n 0, 1) := by decide +kernel
theorem dX0_swelling_33 : decode cX0_swelling 33 = .ok (.getfield 39, 3) := by decide +kernel
theorem dX0_swelling_36 : decode cX0_swelling 36 = .ok (.aload_n 0, 1) := by decide +kernel
theorem dX0_swelling_37 : decode cX0_swelling 37 = .ok (.getfield 9, 3) := by decide +kernel
theorem dX0_swelling_40 : decode cX0_swelling 40 = .ok (.aload_n 0, 1) := by decide +kernel
theorem dX0_swelling_41 : decode cX0_swelling 41 = .ok (.getfield 15, 3) := by decide +kernel
theorem dX0_swelling_44 : decode cX0_swelling 44 = .ok (.iload_n 2, 1) := by decide +kernel
theorem dX0_swelling_45 : decode cX0_swelling 45 = .ok (.invokespecial 86, 3) := by decide +kernel
theorem dX0_swelling_48 : decode cX0_swelling 48 = .ok (.aastore, 1) := by decide +kernel
theorem dX0_swelling_49 : decode cX0_swelling 49 = .ok (.aload_n 0, 1) := by decide +kernel
theorem dX0_swelling_50 : decode cX0_swelling 50 = .ok (.getfield 20, 3) := by decide +kernel
theorem dX0_swelling_53 : decode cX0_swelling 53 = .ok (.iload_n 2, 1) := by decide +kernel
theorem dX0_swelling_54 : decode cX0_swelling 54 = .ok (.aaload, 1) := by decide +kernel
theorem dX0_swelling_55 : decode cX0_swelling 55 = .ok (.areturn, 1) := by decide +kernel
set_option maxRecDepth 20000 in
theorem ggX0_growth_X0_swelling : GoodIn wsX0_growth wsX0_swelling := goodIn_r _ [11, 12, 13, 14, 15, 16, 17, 18, 19, 20, 21, 22, 23, 24, 25, 26, 27, 28, 29, 30, 31, 32, 33, 34, 35, 36, 37, 38, 39, 40, 41, 42, 2, 43, 44, 45, 46, 47, 48, 49, 50, 51, 52, 53, 54, 55, 56, 57, 58, 59, 60, 61, 62, 63, 64, 65, 66, 67, 68, 69, 70, 71, 83, 84, 85, 86, 87, 88, 89, 90, 91, 94, 95, 96, 97, 98, 99, 100, 101, 102, 103, 104, 105, 106, 107, 108, 109, 110] (by decide +kernel) (by decide +kernel)
set_option maxRecDepth 20000 in
theorem gX0_growth_X0_swelling : GoodIn wsX0_growth (wsV RX0 93 RX0 yX0_swelling wsX0_swelling) := goodIn_app (goodIn_of _ (by decide +kernel)) ggX0_growth_X0_swelling
set_option maxRecDepth 20000 in
theorem ggX0_growth_X7_total : GoodIn wsX0_growth wsX7_total := goodIn_r _ [75, 43, 94, 95, 96, 97, 98, 99, 100, 101, 102, 103, 104, 105] (by decide +kernel) (by decide +kernel)
set_option maxRecDepth 20000 in
theorem gX0_growth_X7_total : GoodIn wsX0_growth (wsV RX0 97 RX7 yX7_total wsX7_total) := goodIn_app (goodIn_of _ (by decide +kernel)) ggX0_growth_X7_total
set_option maxRecDepth 20000 in
theorem ggX0_growth_X2_init : GoodIn wsX0_growth wsX2_init := goodIn_r _ [78, 79, 31, 32, 2, 80, 81, 17, 14, 18, 82, 92, 93] (by decide +kernel) (by decide +kernel)
set_option maxRecDepth 20000 in
theorem gX0_growth_X2_init : GoodIn wsX0_growth (wsX2_init) := ggX0_growth_X2_init
theorem dX0_growth_0 : decode cX0_growth 0 = .ok (.aload_n 0, 1) := by decide +kernel
theorem dX0_growth_1 : decode cX0_growth 1 = .ok (.getfield 89, 3) := by decide +kernel
theorem dX0_growth_4 : decode cX0_growth 4 = .ok (.ifnonnull 59, 3) := by decide +kernel
theorem dX0_growth_7 : decode cX0_growth 7 = .ok (.iconst 4, 1) := by decide +kernel
theorem dX0_growth_8 : decode cX0_growth 8 = .ok (.newarray .int, 2) := by decide +kernel
theorem dX0_growth_10 : decode cX0_growth 10 = .ok (.astore_n 1, 1) := by decide +kernel
theorem dX0_growth_11 : decode cX0_growth 11 = .ok (.aload_n 1, 1) := by decide +kernel
theorem dX0_growth_12 : decode cX0_growth 12 = .ok (.iconst 0, 1) := by decide +kernel
theorem dX0_growth_13 : decode cX0_growth 13 = .ok (.iconst 1, 1) := by decide +kernel
theorem dX0_growth_14 : decode cX0_growth 14 = .ok (.iastore, 1) := by decide +kernel
theorem dX0_growth_15 : decode cX0_growth 15 = .ok (.iconst 1, 1) := by decide +kernel
theorem dX0_growth_16 : decode cX0_growth 16 = .ok (.istore_n 2, 1) := by decide +kernel
theorem dX0_growth_17 : decode cX0_growth 17 = .ok (.iload_n 2, 1) := by decide +kernel
theorem dX0_growth_18 : decode cX0_growth 18 = .ok (.aload_n 0, 1) := by decide +kernel
theorem dX0_growth_19 : decode cX0_growth 19 = .ok (.getfield 24, 3) := by decide +kernel
theorem dX0_growth_22 : decode cX0_growth 22 = .ok (.if_icmp .gt 25, 3) := by decide +kernel
theorem dX0_growth_25 : decode cX0_growth 25 = .ok (.iload_n 2, 1) := by decide +kernel
theorem dX0_growth_26 : decode cX0_growth 26 = .ok (.iconst 4, 1) := by decide +kernel
theorem dX0_growth_27 : decode cX0_growth 27 = .ok (.if_icmp .ge 20, 3) := by decide +kernel
theorem dX0_growth_30 : decode cX0_growth 30 = .ok (.aload_n 1, 1) := by decide +kernel
theorem dX0_growth_31 : decode cX0_growth 31 = .ok (.iload_n 2, 1) := by decide +kernel
theorem dX0_growth_32 : decode cX0_growth 32 = .ok (.aload_n 0, 1) := by decide +kernel
theorem dX0_growth_33 : decode cX0_growth 33 = .ok (.iload_n 2, 1) := by decide +kernel
theorem dX0_growth_34 : decode cX0_growth 34 = .ok (.invokevirtual 93, 3) := by decide +kernel
theorem dX0_growth_37 : decode cX0_growth 37 = .ok (.invokevirtual 97, 3) := by decide +kernel
theorem dX0_growth_40 : decode cX0_growth 40 = .ok (.iastore, 1) := by decide +kernel
theorem dX0_growth_41 : decode cX0_growth 41 = .ok (.iinc 2 1, 3) := by decide +kernel
theorem dX0_growth_44 : decode cX0_growth 44 = .ok (.goto (-27), 3) := by decide +kernel
theorem dX0_growth_47 : decode cX0_growth 47 = .ok (.aload_n 0, 1) := by decide +kernel
theorem dX0_growth_48 : decode cX0_growth 48 = .ok (.new 101, 3) := by decide +kernel
theorem dX0_growth_51 : decode cX0_growth 51 = .ok (.dup, 1) := by decide +kernel
theorem dX0_growth_52 : decode cX0_growth 52 = .ok (.aload_n 0, 1) := by decide +kernel
theorem dX0_growth_53 : decode cX0_growth 53 = .ok (.getfield 24, 3) := by decide +kernel
theorem dX0_growth_56 : decode cX0_growth 56 = .ok (.aload_n 1, 1) := by decide +kernel
theorem dX0_growth_57 : decode cX0_growth 57 = .ok (.invokespecial 103, 3) := by decide +kernel
theorem dX0_growth_60 : decode cX0_growth 60 = .ok (.putfield 89, 3) := by decide +kernel
theorem dX0_growth_63 : decode cX0_growth 63 = .ok (.aload_n 0, 1) := by decide +kernel
theorem dX0_growth_64 : decode cX0_growth 64 = .ok (.getfield 89, 3) := by decide +kernel
theorem dX0_growth_67 : decode cX0_growth 67 = .ok (.areturn, 1) := by decide +kernel
theorem dX1_init_0 : decode cX1_init 0 = .ok (.aload_n 0, 1) := by decide +kernel
theorem dX1_init_1 : decode cX1_init 1 = .ok (.invokespecial 3, 3) := by decide +kernel
theorem dX1_init_4 : decode cX1_init 4 = .ok (.iload_n 1, 1) := by decide +kernel
theorem dX1_init_5 : decode cX1_init 5 = .ok (.iconst 0, 1) := by decide +kernel
theorem dX1_init_6 : decode cX1_init 6 = .ok (.invokestatic 9, 3) := by decide +kernel
theorem dX1_init_9 : decode cX1_init 9 = .ok (.istore_n 2, 1) := by decide +kernel
theorem dX1_init_10 : decode cX1_init 10 = .ok (.aload_n 0, 1) := by decide +kernel
theorem dX1_init_11 : decode cX1_init 11 = .ok (.iload_n 2, 1) := by decide +kernel
theorem dX1_init_12 : decode cX1_init 12 = .ok (.newarray .int, 2) := by decide +kernel
theorem dX1_init_14 : decode cX1_init 14 = .ok (.putfield 15, 3) := by decide +kernel
theorem dX1_init_17 : decode cX1_init 17 = .ok (.aload_n 0, 1) := by decide +kernel
theorem dX1_init_18 : decode cX1_init 18 = .ok (.iload_n 2, 1) := by decide +kernel
theorem dX1_init_19 : decode cX1_init 19 = .ok (.newarray .int, 2) := by decide +kernel
theorem dX1_init_21 : decode cX1_init 21 = .ok (.putfield 21, 3) := by decide +kernel
theorem dX1_init_24 : decode cX1_init 24 = .ok (.aload_n 0, 1) := by decide +kernel
theorem dX1_init_25 : decode cX1_init 25 = .ok (.iload_n 2, 1) := by decide +kernel
theorem dX1_init_26 : decode cX1_init 26 = .ok (.newarray .int, 2) := by decide +kernel
theorem dX1_init_28 : decode cX1_init 28 = .ok (.putfield 24, 3) := by decide +kernel
theorem dX1_init_31 : decode cX1_init 31 = .ok (.aload_n 0, 1) := by decide +kernel
theorem dX1_init_32 : decode cX1_init 32 = .ok (.iload_n 2, 1) := by decide +kernel
theorem dX1_init_33 : decode cX1_init 33 = .ok (.newarray .int, 2) := by decide +kernel
theorem dX1_init_35 : decode cX1_init 35 = .ok (.putfield 27, 3) := by decide +kernel
theorem dX1_init_38 : decode cX1_init 38 = .ok (.return_, 1) := by decide +kernel
set_option maxRecDepth 20000 in
theorem ggX1_trimmed_X1_init : GoodIn wsX1_trimmed wsX1_init := goodIn_r _ [15, 16, 17, 18, 19, 20, 21, 22, 23, 5, 10, 11, 12, 24, 25, 26, 27, 28] (by decide +kernel) (by decide +kernel)
set_option maxRecDepth 20000 in
theorem gX1_trimmed_X1_init : GoodIn wsX1_trimmed (wsX1_init) := ggX1_trimmed_X1_init
theorem dX1_trimmed_0 : decode cX1_trimmed 0 = .ok (.new 16, 3) := by decide +kernel
theorem dX1_trimmed_3 : decode cX1_trimmed 3 = .ok (.dup, 1) := by decide +kernel
theorem dX1_trimmed_4 : decode cX1_trimmed 4 = .ok (.aload_n 0, 1) := by decide +kernel
theorem dX1_trimmed_5 : decode cX1_trimmed 5 = .ok (.getfield 30, 3) := by decide +kernel
theorem dX1_trimmed_8 : decode cX1_trimmed 8 = .ok (.invokespecial 34, 3) := by decide +kernel
theorem dX1_trimmed_11 : decode cX1_trimmed 11 = .ok (.astore_n 1, 1) := by decide +kernel
theorem dX1_trimmed_12 : decode cX1_trimmed 12 = .ok (.aload_n 0, 1) := by decide +kernel
theorem dX1_trimmed_13 : decode cX1_trimmed 13 = .ok (.getfield 15, 3) := by decide +kernel
theorem dX1_trimmed_16 : decode cX1_trimmed 16 = .ok (.iconst 0, 1) := by decide +kernel
theorem dX1_trimmed_17 : decode cX1_trimmed 17 = .ok (.aload_n 1, 1) := by decide +kernel
theorem dX1_trimmed_18 : decode cX1_trimmed 18 = .ok (.getfield 15, 3) := by decide +kernel
theorem dX1_trimmed_21 : decode cX1_trimmed 21 = .ok (.iconst 0, 1) := by decide +kernel
theorem dX1_trimmed_22 : decode cX1_trimmed 22 = .ok (.aload_n 0, 1) := by decide +kernel
theorem dX1_trimmed_23 : decode cX1_trimmed 23 = .ok (.getfield 30, 3) := by decide +kernel
theorem dX1_trimmed_26 : decode cX1_trimmed 26 = .ok (.invokestatic 37, 3) := by decide +kernel
theorem dX1_trimmed_29 : decode cX1_trimmed 29 = .ok (.aload_n 0, 1) := by decide +kernel
theorem dX1_trimmed_30 : decode cX1_trimmed 30 = .ok (.getfield 21, 3) := by decide +kernel
theorem dX1_trimmed_33 : decode cX1_trimmed 33 = .ok (.iconst 0, 1) := by decide +kernel
theorem dX1_trimmed_34 : decode cX1_trimmed 34 = .ok (.aload_n 1, 1) := by decide +kernel
theorem dX1_trimmed_35 : decode cX1_trimmed 35 = .ok (.getfield 21, 3) := by decide +kernel
theorem dX1_trimmed_38 : decode cX1_trimmed 38 = .ok (.iconst 0, 1) := by decide +kernel
theorem dX1_trimmed_39 : decode cX1_trimmed 39 = .ok (.aload_n 0, 1) := by decide +kernel
theorem dX1_trimmed_40 : decode cX1_trimmed 40 = .ok (.getfield 30, 3) := by decide +kernel
theorem dX1_trimmed_43 : decode cX1_trimmed 43 = .ok (.invokestatic 37, 3) := by decide +kernel
theorem dX1_trimmed_46 : decode cX1_trimmed 46 = .ok (.aload_n 0, 1) := by decide +kernel
theorem dX1_trimmed_47 : decode cX1_trimmed 47 = .ok (.getfield 24, 3) := by decide +kernel
theorem dX1_trimmed_50 : decode cX1_trimmed 50 = .ok (.iconst 0, 1) := by decide +kernel
theorem dX1_trimmed_51 : decode cX1_trimmed 51 = .ok (.aload_n 1, 1) := by decide +kernel
theorem dX1_trimmed_52 : decode cX1_trimmed 52 = .ok (.getfield 24, 3) := by decide +kernel
theorem dX1_trimmed_55 : decode cX1_trimmed 55 = .ok (.iconst 0, 1) := by decide +kernel
theorem dX1_trimmed_56 : decode cX1_trimmed 56 = .ok (.aload_n 0, 1) := by decide +kernel
theorem dX1_trimmed_57 : decode cX1_trimmed 57 = .ok (.getfield 30, 3) := by decide +kernel
theorem dX1_trimmed_60 : decode cX1_trimmed 60 = .ok (.invokestatic 37, 3) := by decide +kernel
theorem dX1_trimmed_63 : decode cX1_trimmed 63 = .ok (.aload_n 0, 1) := by decide +kernel
theorem dX1_trimmed_64 : decode cX1_trimmed 64 = .ok (.getfield 27, 3) := by decide +kernel
theorem dX1_trimmed_67 : decode cX1_trimmed 67 = .ok (.iconst 0, 1) := by decide +kernel
theorem dX1_trimmed_68 : decode cX1_trimmed 68 = .ok (.aload_n 1, 1) := by decide +kernel
theorem dX1_trimmed_69 : decode cX1_trimmed 69 = .ok (.getfield 27, 3) := by decide +kernel
theorem dX1_trimmed_72 : decode cX1_trimmed 72 = .ok (.iconst 0, 1) := by decide +kernel
theorem dX1_trimmed_73 : decode cX1_trimmed 73 = .ok (.aload_n 0, 1) := by decide +kernel
theorem dX1_trimmed_74 : decode cX1_trimmed 74 = .ok (.getfield 30, 3) := by decide +kernel
theorem dX1_trimmed_77 : decode cX1_trimmed 77 = .ok (.invokestatic 37, 3) := by decide +kernel
theorem dX1_trimmed_80 : decode cX1_trimmed 80 = .ok (.aload_n 1, 1) := by decide +kernel
theorem dX1_trimmed_81 : decode cX1_trimmed 81 = .ok (.aload_n 0, 1) := by decide +kernel
theorem dX1_trimmed_82 : decode cX1_trimmed 82 = .ok (.getfield 30, 3) := by decide +kernel
theorem dX1_trimmed_85 : decode cX1_trimmed 85 = .ok (.putfield 30, 3) := by decide +kernel
theorem dX1_trimmed_88 : decode cX1_trimmed 88 = .ok (.aload_n 1, 1) := by decide +kernel
theorem dX1_trimmed_89 : decode cX1_trimmed 89 = .ok (.areturn, 1) := by decide +kernel
theorem dX1_part_0 : decode cX1_part 0 = .ok (.iload_n 1, 1) := by decide +kernel
theorem dX1_part_1 : decode cX1_part 1 = .ok (.ifCond .lt 11, 3) := by decide +kernel
theorem dX1_part_4 : decode cX1_part 4 = .ok (.iload_n 1, 1) := by decide +kernel
theorem dX1_part_5 : decode cX1_part 5 = .ok (.aload_n 0, 1) := by decide +kernel
theorem dX1_part_6 : decode cX1_part 6 = .ok (.getfield 30, 3) := by decide +kernel
theorem dX1_part_9 : decode cX1_part 9 = .ok (.if_icmp .lt 7, 3) := by decide +kernel
theorem dX1_part_12 : decode cX1_part 12 = .ok (.sipush 1000, 3) := by decide +kernel
theorem dX1_part_15 : decode cX1_part 15 = .ok (.ireturn, 1) := by decide +kernel
theorem dX1_part_16 : decode cX1_part 16 = .ok (.iload_n 2, 1) := by decide +kernel
theorem dX1_part_17 : decode cX1_part 17 = .ok (.tableswitch 48 0 2 #[27, 34, 41], 27) := by decide +kernel
theorem dX1_part_44 : decode cX1_part 44 = .ok (.aload_n 0, 1) := by decide +kernel
theorem dX1_part_45 : decode cX1_part 45 = .ok (.getfield 15, 3) := by decide +kernel
theorem dX1_part_48 : decode cX1_part 48 = .ok (.iload_n 1, 1) := by decide +kernel
theorem dX1_part_49 : decode cX1_part 49 = .ok (.iaload, 1) := by decide +kernel
theorem dX1_part_50 : decode cX1_part 50 = .ok (.ireturn, 1) := by decide +kernel
theorem dX1_part_51 : decode cX1_part 51 = .ok (.aload_n 0, 1) := by decide +kernel
theorem dX1_part_52 : decode cX1_part 52 = .ok (.getfield 21, 3) := by decide +kernel
theorem dX1_part_55 : decode cX1_part 55 = .ok (.iload_n 1, 1) := by decide +kernel
theorem dX1_part_56 : decode cX1_part 56 = .ok (.iaload, 1) := by decide +kernel
theorem dX1_part_57 : decode cX1_part 57 = .ok (.ireturn, 1) := by decide +kernel
theorem dX1_part_58 : decode cX1_part 58 = .ok (.aload_n 0, 1) := by decide +kernel
theorem dX1_part_59 : decode cX1_part 59 = .ok (.getfield 24, 3) := by decide +kernel
theorem dX1_part_62 : decode cX1_part 62 = .ok (.iload_n 1, 1) := by decide +kernel
theorem dX1_part_63 : decode cX1_part 63 = .ok (.iaload, 1) := by decide +kernel
theorem dX1_part_64 : decode cX1_part 64 = .ok (.ireturn, 1) := by decide +kernel
theorem dX1_part_65 : decode cX1_part 65 = .ok (.aload_n 0, 1) := by decide +kernel
theorem dX1_part_66 : decode cX1_part 66 = .ok (.getfield 27, 3) := by decide +kernel
theorem dX1_part_69 : decode cX1_part 69 = .ok (.iload_n 1, 1) := by decide +kernel
theorem dX1_part_70 : decode cX1_part 70 = .ok (.iaload, 1) := by decide +kernel
theorem dX1_part_71 : decode cX1_part 71 = .ok (.ireturn, 1) := by decide +kernel
set_option maxRecDepth 20000 in
theorem ggX1_put_X1_insert : GoodIn wsX1_put wsX1_insert := goodIn_r _ [6, 1, 7, 8, 9, 10, 11, 12, 13, 14, 15] (by decide +kernel) (by decide +kernel)
set_option maxRecDepth 20000 in
theorem gX1_put_X1_insert : GoodIn wsX1_put (wsV RX1 43 RX1 yX1_insert wsX1_insert) := goodIn_app (goodIn_of _ (by decide +kernel)) ggX1_put_X1_insert
theorem dX1_put_0 : decode cX1_put 0 = .ok (.aload_n 0, 1) := by decide +kernel
theorem dX1_put_1 : decode cX1_put 1 = .ok (.aload_n 0, 1) := by decide +kernel
theorem dX1_put_2 : decode cX1_put 2 = .ok (.getfield 30, 3) := by decide +kernel
theorem dX1_put_5 : decode cX1_put 5 = .ok (.iload_n 1, 1) := by decide +kernel
theorem dX1_put_6 : decode cX1_put 6 = .ok (.iload_n 2, 1) := by decide +kernel
theorem dX1_put_7 : decode cX1_put 7 = .ok (.iload_n 3, 1) := by decide +kernel
theorem dX1_put_8 : decode cX1_put 8 = .ok (.iload 4, 2) := by decide +kernel
theorem dX1_put_10 : decode cX1_put 10 = .ok (.invokevirtual 43, 3) := by decide +kernel
theorem dX1_put_13 : decode cX1_put 13 = .ok (.return_, 1) := by decide +kernel
set_option maxRecDepth 20000 in
theorem ggX1_putInOrder_X1_compare : GoodIn wsX1_putInOrder wsX1_compare := goodIn_r _ [9, 10, 2, 11, 3, 12, 4, 18, 19, 20, 21, 22, 23, 24, 25] (by decide +kernel) (by decide +kernel)
set_option maxRecDepth 20000 in
theorem gX1_putInOrder_X1_compare : GoodIn wsX1_putInOrder (wsV RX1 47 RX1 yX1_compare wsX1_compare) := goodIn_app (goodIn_of _ (by decide +kernel)) ggX1_putInOrder_X1_compare
set_option maxRecDepth 20000 in
theorem ggX1_putInOrder_X1_insert : GoodIn wsX1_putInOrder wsX1_insert := goodIn_r _ [16, 1, 10, 11, 12, 17, 18, 19, 20, 21, 22] (by decide +kernel) (by decide +kernel)
set_option maxRecDepth 20000 in
theorem gX1_putInOrder_X1_insert : GoodIn wsX1_putInOrder (wsV RX1 43 RX1 yX1_insert wsX1_insert) := goodIn_app (goodIn_of _ (by decide +kernel)) ggX1_putInOrder_X1_insert
theorem dX1_putInOrder_0 : decode cX1_putInOrder 0 = .ok (.iconst 0, 1) := by decide +kernel
theorem dX1_putInOrder_1 : decode cX1_putInOrder 1 = .ok (.istore_n 3, 1) := by decide +kernel
theorem dX1_putInOrder_2 : decode cX1_putInOrder 2 = .ok (.iload_n 3, 1) := by decide +kernel
theorem dX1_putInOrder_3 : decode cX1_putInOrder 3 = .ok (.aload_n 0, 1) := by decide +kernel
theorem dX1_putInOrder_4 : decode cX1_putInOrder 4 = .ok (.getfield 30, 3) := by decide +kernel
theorem dX1_putInOrder_7 : decode cX1_putInOrder 7 = .ok (.if_icmp .ge 18, 3) := by decide +kernel
theorem dX1_putInOrder_10 : decode cX1_putInOrder 10 = .ok (.aload_n 0, 1) := by decide +kernel
theorem dX1_putInOrder_11 : decode cX1_putInOrder 11 = .ok (.iload_n 3, 1) := by decide +kernel
theorem dX1_putInOrder_12 : decode cX1_putInOrder 12 = .ok (.aload_n 1, 1) := by decide +kernel
theorem dX1_putInOrder_13 : decode cX1_putInOrder 13 = .ok (.invokevirtual 47, 3) := by decide +kernel
theorem dX1_putInOrder_16 : decode cX1_putInOrder 16 = .ok (.ifCond .ge 9, 3) := by decide +kernel
theorem dX1_putInOrder_19 : decode cX1_putInOrder 19 = .ok (.iinc 3 1, 3) := by decide +kernel
theorem dX1_putInOrder_22 : decode cX1_putInOrder 22 = .ok (.goto (-20), 3) := by decide +kernel
theorem dX1_putInOrder_25 : decode cX1_putInOrder 25 = .ok (.iload_n 3, 1) := by decide +kernel
theorem dX1_putInOrder_26 : decode cX1_putInOrder 26 = .ok (.aload_n 0, 1) := by decide +kernel
theorem dX1_putInOrder_27 : decode cX1_putInOrder 27 = .ok (.getfield 30, 3) := by decide +kernel
theorem dX1_putInOrder_30 : decode cX1_putInOrder 30 = .ok (.if_icmp .eq 12, 3) := by decide +kernel
theorem dX1_putInOrder_33 : decode cX1_putInOrder 33 = .ok (.aload_n 0, 1) := by decide +kernel
theorem dX1_putInOrder_34 : decode cX1_putInOrder 34 = .ok (.iload_n 3, 1) := by decide +kernel
theorem dX1_putInOrder_35 : decode cX1_putInOrder 35 = .ok (.aload_n 1, 1) := by decide +kernel
theorem dX1_putInOrder_36 : decode cX1_putInOrder 36 = .ok (.invokevirtual 47, 3) := by decide +kernel
theorem dX1_putInOrder_39 : decode cX1_putInOrder 39 = .ok (.ifCond .eq 21, 3) := by decide +kernel
theorem dX1_putInOrder_42 : decode cX1_putInOrder 42 = .ok (.aload_n 0, 1) := by decide +kernel
theorem dX1_putInOrder_43 : decode cX1_putInOrder 43 = .ok (.iload_n 3, 1) := by decide +kernel
theorem dX1_putInOrder_44 : decode cX1_putInOrder 44 = .ok (.aload_n 1, 1) := by decide +kernel
theorem dX1_putInOrder_45 : decode cX1_putInOrder 45 = .ok (.getfield 51, 3) := by decide +kernel
theorem dX1_putInOrder_48 : decode cX1_putInOrder 48 = .ok (.aload_n 1, 1) := by decide +kernel
theorem dX1_putInOrder_49 : decode cX1_putInOrder 49 = .ok (.getfield 56, 3) := by decide +kernel
theorem dX1_putInOrder_52 : decode cX1_putInOrder 52 = .ok (.aload_n 1, 1) := by decide +kernel
theorem dX1_putInOrder_53 : decode cX1_putInOrder 53 = .ok (.getfield 59, 3) := by decide +kernel
theorem dX1_putInOrder_56 : decode cX1_putInOrder 56 = .ok (.iload_n 2, 1) := by decide +kernel
theorem dX1_putInOrder_57 : decode cX1_putInOrder 57 = .ok (.invokevirtual 43, 3) := by decide +kernel
theorem dX1_putInOrder_60 : decode cX1_putInOrder 60 = .ok (.return_, 1) := by decide +kernel
theorem dX1_compare_0 : decode cX1_compare 0 = .ok (.aload_n 0, 1) := by decide +kernel
theorem dX1_compare_1 : decode cX1_compare 1 = .ok (.getfield 15, 3) := by decide +kernel
theorem dX1_compare_4 : decode cX1_compare 4 = .ok (.iload_n 1, 1) := by decide +kernel
theorem dX1_compare_5 : decode cX1_compare 5 = .ok (.iaload, 1) := by decide +kernel
theorem dX1_compare_6 : decode cX1_compare 6 = .ok (.aload_n 2, 1) := by decide +kernel
theorem dX1_compare_7 : decode cX1_compare 7 = .ok (.getfield 51, 3) := by decide +kernel
theorem dX1_compare_10 : decode cX1_compare 10 = .ok (.if_icmp .eq 15, 3) := by decide +kernel
theorem dX1_compare_13 : decode cX1_compare 13 = .ok (.aload_n 0, 1) := by decide +kernel
theorem dX1_compare_14 : decode cX1_compare 14 = .ok (.getfield 15, 3) := by decide +kernel
theorem dX1_compare_17 : decode cX1_compare 17 = .ok (.iload_n 1, 1) := by decide +kernel
theorem dX1_compare_18 : decode cX1_compare 18 = .ok (.iaload, 1) := by decide +kernel
theorem dX1_compare_19 : decode cX1_compare 19 = .ok (.aload_n 2, 1) := by decide +kernel
theorem dX1_compare_20 : decode cX1_compare 20 = .ok (.getfield 51, 3) := by decide +kernel
theorem dX1_compare_23 : decode cX1_compare 23 = .ok (.isub, 1) := by decide +kernel
theorem dX1_compare_24 : decode cX1_compare 24 = .ok (.ireturn, 1) := by decide +kernel
theorem dX1_compare_25 : decode cX1_compare 25 = .ok (.aload_n 0, 1) := by decide +kernel
theorem dX1_compare_26 : decode cX1_compare 26 = .ok (.getfield 21, 3) := by decide +kernel
theorem dX1_compare_29 : decode cX1_compare 29 = .ok (.iload_n 1, 1) := by decide +kernel
theorem dX1_compare_30 : decode cX1_compare 30 = .ok (.iaload, 1) := by decide +kernel
theorem dX1_compare_31 : decode cX1_compare 31 = .ok (.aload_n 2, 1) := by decide +kernel
theorem dX1_compare_32 : decode cX1_compare 32 = .ok (.getfield 56, 3) := by decide +kernel
theorem dX1_compare_35 : decode cX1_compare 35 = .ok (.if_icmp .eq 15, 3) := by decide +kernel
theorem dX1_compare_38 : decode cX1_compare 38 = .ok (.aload_n 0, 1) := by decide +kernel
theorem dX1_compare_39 : decode cX1_compare 39 = .ok (.getfield 21, 3) := by decide +kernel
theorem dX1_compare_42 : decode cX1_compare 42 = .ok (.iload_n 1, 1) := by decide +kernel
theorem dX1_compare_43 : decode cX1_compare 43 = .ok (.iaload, 1) := by decide +kernel
theorem dX1_compare_44 : decode cX1_compare 44 = .ok (.aload_n 2, 1) := by decide +kernel
theorem dX1_compare_45 : decode cX1_compare 45 = .ok (.getfield 56, 3) := by decide +kernel
theorem dX1_compare_48 : decode cX1_compare 48 = .ok (.isub, 1) := by decide +kernel
theorem dX1_compare_49 : decode cX1_compare 49 = .ok (.ireturn, 1) := by decide +kernel
theorem dX1_compare_50 : decode cX1_compare 50 = .ok (.aload_n 0, 1) := by decide +kernel
theorem dX1_compare_51 : decode cX1_compare 51 = .ok (.getfield 24, 3) := by decide +kernel
theorem dX1_compare_54 : decode cX1_compare 54 = .ok (.iload_n 1, 1) := by decide +kernel
theorem dX1_compare_55 : decode cX1_compare 55 = .ok (.iaload, 1) := by decide +kernel
theorem dX1_compare_56 : decode cX1_compare 56 = .ok (.aload_n 2, 1) := by decide +kernel
theorem dX1_compare_57 : decode cX1_compare 57 = .ok (.getfield 59, 3) := by decide +kernel
theorem dX1_compare_60 : decode cX1_compare 60 = .ok (.isub, 1) := by decide +kernel
theorem dX1_compare_61 : decode cX1_compare 61 = .ok (.ireturn, 1) := by decide +kernel
theorem dX1_insert_0 : decode cX1_insert 0 = .ok (.iload_n 1, 1) := by decide +kernel
theorem dX1_insert_1 : decode cX1_insert 1 = .ok (.ifCond .lt 23, 3) := by decide +kernel
theorem dX1_insert_4 : decode cX1_insert 4 = .ok (.iload_n 1, 1) := by decide +kernel
theorem dX1_insert_5 : decode cX1_insert 5 = .ok (.aload_n 0, 1) := by decide +kernel
theorem dX1_insert_6 : decode cX1_insert 6 = .ok (.getfield 30, 3) := by decide +kernel
theorem dX1_insert_9 : decode cX1_insert 9 = .ok (.if_icmp .gt 15, 3) := by decide +kernel
theorem dX1_insert_12 : decode cX1_insert 12 = .ok (.aload_n 0, 1) := by decide +kernel
theorem dX1_insert_13 : decode cX1_insert 13 = .ok (.getfield 30, 3) := by decide +kernel
theorem dX1_insert_16 : decode cX1_insert 16 = .ok (.aload_n 0, 1) := by decide +kernel
theorem dX1_insert_17 : decode cX1_insert 17 = .ok (.getfield 15, 3) := by decide +kernel
theorem dX1_insert_20 : decode cX1_insert 20 = .ok (.arraylength, 1) := by decide +kernel
theorem dX1_insert_21 : decode cX1_insert 21 = .ok (.if_icmp .lt 4, 3) := by decide +kernel
theorem dX1_insert_24 : decode cX1_insert 24 = .ok (.return_, 1) := by decide +kernel
theorem dX1_insert_25 : decode cX1_insert 25 = .ok (.aload_n 0, 1) := by decide +kernel
theorem dX1_insert_26 : decode cX1_insert 26 = .ok (.getfield 30, 3) := by decide +kernel
theorem dX1_insert_29 : decode cX1_insert 29 = .ok (.istore 6, 2) := by decide +kernel
theorem dX1_insert_31 : decode cX1_insert 31 = .ok (.iload 6, 2) := by decide +kernel
theorem dX1_insert_33 : decode cX1_insert 33 = .ok (.iload_n 1, 1) := by decide +kernel
theorem dX1_insert_34 : decode cX1_insert 34 = .ok (.if_icmp .le 73, 3) := by decide +kernel
theorem dX1_insert_37 : decode cX1_insert 37 = .ok (.aload_n 0, 1) := by decide +kernel
theorem dX1_insert_38 : decode cX1_insert 38 = .ok (.getfield 15, 3) := by decide +kernel
theorem dX1_insert_41 : decode cX1_insert 41 = .ok (.iload 6, 2) := by decide +kernel
theorem dX1_insert_43 : decode cX1_insert 43 = .ok (.aload_n 0, 1) := by decide +kernel
theorem dX1_insert_44 : decode cX1_insert 44 = .ok (.getfield 15, 3) := by decide +kernel
theorem dX1_insert_47 : decode cX1_insert 47 = .ok (.iload 6, 2) := by decide +kernel
theorem dX1_insert_49 : decode cX1_insert 49 = .ok (.iconst 1, 1) := by decide +kernel
theorem dX1_insert_50 : decode cX1_insert 50 = .ok (.isub, 1) := by decide +kernel
theorem dX1_insert_51 : decode cX1_insert 51 = .ok (.iaload, 1) := by decide +kernel
theorem dX1_insert_52 : decode cX1_insert 52 = .ok (.iastore, 1) := by decide +kernel
theorem dX1_insert_53 : decode cX1_insert 53 = .ok (.aload_n 0, 1) := by decide +kernel
theorem dX1_insert_54 : decode cX1_insert 54 = .ok (.getfield 21, 3) := by decide +kernel
theorem dX1_insert_57 : decode cX1_insert 57 = .ok (.iload 6, 2) := by decide +kernel
theorem dX1_insert_59 : decode cX1_insert 59 = .ok (.aload_n 0, 1) := by decide +kernel
theorem dX1_insert_60 : decode cX1_insert 60 = .ok (.getfield 21, 3) := by decide +kernel
theorem dX1_insert_63 : decode cX1_insert 63 = .ok (.iload 6, 2) := by decide +kernel
theorem dX1_insert_65 : decode cX1_insert 65 = .ok (.iconst 1, 1) := by decide +kernel
theorem dX1_insert_66 : decode cX1_insert 66 = .ok (.isub, 1) := by decide +kernel
theorem dX1_insert_67 : decode cX1_insert 67 = .ok (.iaload, 1) := by decide +kernel
theorem dX1_insert_68 : decode cX1_insert 68 = .ok (.iastore, 1) := by decide +kernel
theorem dX1_insert_69 : decode cX1_insert 69 = .ok (.aload_n 0, 1) := by decide +kernel
theorem dX1_insert_70 : decode cX1_insert 70 = .ok (.getfield 24, 3) := by decide +kernel
theorem dX1_insert_73 : decode cX1_insert 73 = .ok (.iload 6, 2) := by decide +kernel
theorem dX1_insert_75 : decode cX1_insert 75 = .ok (.aload_n 0, 1) := by decide +kernel
theorem dX1_insert_76 : decode cX1_insert 76 = .ok (.getfield 24, 3) := by decide +kernel
theorem dX1_insert_79 : decode cX1_insert 79 = .ok (.iload 6, 2) := by decide +kernel
theorem dX1_insert_81 : decode cX1_insert 81 = .ok (.iconst 1, 1) := by decide +kernel
theorem dX1_insert_82 : decode cX1_insert 82 = .ok (.isub, 1) := by decide +kernel
theorem dX1_insert_83 : decode cX1_insert 83 = .ok (.iaload, 1) := by decide +kernel
theorem dX1_insert_84 : decode cX1_insert 84 = .ok (.iastore, 1) := by decide +kernel
theorem dX1_insert_85 : decode cX1_insert 85 = .ok (.aload_n 0, 1) := by decide +kernel
theorem dX1_insert_86 : decode cX1_insert 86 = .ok (.getfield 27, 3) := by decide +kernel
theorem dX1_insert_89 : decode cX1_insert 89 = .ok (.iload 6, 2) := by decide +kernel
theorem dX1_insert_91 : decode cX1_insert 91 = .ok (.aload_n 0, 1) := by decide +kernel
theorem dX1_insert_92 : decode cX1_insert 92 = .ok (.getfield 27, 3) := by decide +kernel
theorem dX1_insert_95 : decode cX1_insert 95 = .ok (.iload 6, 2) := by decide +kernel
theorem dX1_insert_97 : decode cX1_insert 97 = .ok (.iconst 1, 1) := by decide +kernel
theorem dX1_insert_98 : decode cX1_insert 98 = .ok (.isub, 1) := by decide +kernel
theorem dX1_insert_99 : decode cX1_insert 99 = .ok (.iaload, 1) := by decide +kernel
theorem dX1_insert_100 : decode cX1_insert 100 = .ok (.iastore, 1) := by decide +kernel
theorem dX1_insert_101 : decode cX1_insert 101 = .ok (.iinc 6 (-1), 3) := by decide +kernel
theorem dX1_insert_104 : decode cX1_insert 104 = .ok (.goto (-73), 3) := by decide +kernel
theorem dX1_insert_107 : decode cX1_insert 107 = .ok (.aload_n 0, 1) := by decide +kernel
theorem dX1_insert_108 : decode cX1_insert 108 = .ok (.getfield 15, 3) := by decide +kernel
theorem dX1_insert_111 : decode cX1_insert 111 = .ok (.iload_n 1, 1) := by decide +kernel
theorem dX1_insert_112 : decode cX1_insert 112 = .ok (.iload_n 2, 1) := by decide +kernel
theorem dX1_insert_113 : decode cX1_insert 113 = .ok (.iastore, 1) := by decide +kernel
theorem dX1_insert_114 : decode cX1_insert 114 = .ok (.aload_n 0, 1) := by decide +kernel
theorem dX1_insert_115 : decode cX1_insert 115 = .ok (.getfield 21, 3) := by decide +kernel
theorem dX1_insert_118 : decode cX1_insert 118 = .ok (.iload_n 1, 1) := by decide +kernel
theorem dX1_insert_119 : decode cX1_insert 119 = .ok (.iload_n 3, 1) := by decide +kernel
theorem dX1_insert_120 : decode cX1_insert 120 = .ok (.iastore, 1) := by decide +kernel
theorem dX1_insert_121 : decode cX1_insert 121 = .ok (.aload_n 0, 1) := by decide +kernel
theorem dX1_insert_122 : decode cX1_insert 122 = .ok (.getfield 24, 3) := by decide +kernel
theorem dX1_insert_125 : decode cX1_insert 125 = .ok (.iload_n 1, 1) := by decide +kernel
theorem dX1_insert_126 : decode cX1_insert 126 = .ok (.iload 4, 2) := by decide +kernel
theorem dX1_insert_128 : decode cX1_insert 128 = .ok (.iastore, 1) := by decide +kernel
theorem dX1_insert_129 : decode cX1_insert 129 = .ok (.aload_n 0, 1) := by decide +kernel
theorem dX1_insert_130 : decode cX1_insert 130 = .ok (.getfield 27, 3) := by decide +kernel
theorem dX1_insert_133 : decode cX1_insert 133 = .ok (.iload_n 1, 1) := by decide +kernel
theorem dX1_insert_134 : decode cX1_insert 134 = .ok (.iload 5, 2) := by decide +kernel
theorem dX1_insert_136 : decode cX1_insert 136 = .ok (.iastore, 1) := by decide +kernel
theorem dX1_insert_137 : decode cX1_insert 137 = .ok (.aload_n 0, 1) := by decide +kernel
theorem dX1_insert_138 : decode cX1_insert 138 = .ok (.dup, 1) := by decide +kernel
theorem dX1_insert_139 : decode cX1_insert 139 = .ok (.getfield 30, 3) := by decide +kernel
theorem dX1_insert_142 : decode cX1_insert 142 = .ok (.iconst 1, 1) := by decide +kernel
theorem dX1_insert_143 : decode cX1_insert 143 = .ok (.iadd, 1) := by decide +kernel
theorem dX1_insert_144 : decode cX1_insert 144 = .ok (.putfield 30, 3) := by decide +kernel
theorem dX1_insert_147 : decode cX1_insert 147 = .ok (.return_, 1) := by decide +kernel
theorem dX1_excess_0 : decode cX1_excess 0 = .ok (.aload_n 0, 1) := by decide +kernel
theorem dX1_excess_1 : decode cX1_excess 1 = .ok (.getfield 15, 3) := by decide +kernel
theorem dX1_excess_4 : decode cX1_excess 4 = .ok (.iload_n 1, 1) := by decide +kernel
theorem dX1_excess_5 : decode cX1_excess 5 = .ok (.iaload, 1) := by decide +kernel
theorem dX1_excess_6 : decode cX1_excess 6 = .ok (.i2l, 1) := by decide +kernel
theorem dX1_excess_7 : decode cX1_excess 7 = .ok (.lload_n 2, 1) := by decide +kernel
theorem dX1_excess_8 : decode cX1_excess 8 = .ok (.lmul, 1) := by decide +kernel
theorem dX1_excess_9 : decode cX1_excess 9 = .ok (.aload_n 0, 1) := by decide +kernel
theorem dX1_excess_10 : decode cX1_excess 10 = .ok (.getfield 21, 3) := by decide +kernel
theorem dX1_excess_13 : decode cX1_excess 13 = .ok (.iload_n 1, 1) := by decide +kernel
theorem dX1_excess_14 : decode cX1_excess 14 = .ok (.iaload, 1) := by decide +kernel
theorem dX1_excess_15 : decode cX1_excess 15 = .ok (.i2l, 1) := by decide +kernel
theorem dX1_excess_16 : decode cX1_excess 16 = .ok (.lload 4, 2) := by decide +kernel
theorem dX1_excess_18 : decode cX1_excess 18 = .ok (.lmul, 1) := by decide +kernel
theorem dX1_excess_19 : decode cX1_excess 19 = .ok (.ladd, 1) := by decide +kernel
theorem dX1_excess_20 : decode cX1_excess 20 = .ok (.aload_n 0, 1) := by decide +kernel
theorem dX1_excess_21 : decode cX1_excess 21 = .ok (.getfield 24, 3) := by decide +kernel
theorem dX1_excess_24 : decode cX1_excess 24 = .ok (.iload_n 1, 1) := by decide +kernel
theorem dX1_excess_25 : decode cX1_excess 25 = .ok (.iaload, 1) := by decide +kernel
theorem dX1_excess_26 : decode cX1_excess 26 = .ok (.i2l, 1) := by decide +kernel
theorem dX1_excess_27 : decode cX1_excess 27 = .ok (.lload 6, 2) := by decide +kernel
theorem dX1_excess_29 : decode cX1_excess 29 = .ok (.lmul, 1) := by decide +kernel
theorem dX1_excess_30 : decode cX1_excess 30 = .ok (.ladd, 1) := by decide +kernel
theorem dX1_excess_31 : decode cX1_excess 31 = .ok (.aload_n 0, 1) := by decide +kernel
theorem dX1_excess_32 : decode cX1_excess 32 = .ok (.getfield 27, 3) := by decide +kernel
theorem dX1_excess_35 : decode cX1_excess 35 = .ok (.iload_n 1, 1) := by decide +kernel
theorem dX1_excess_36 : decode cX1_excess 36 = .ok (.iaload, 1) := by decide +kernel
theorem dX1_excess_37 : decode cX1_excess 37 = .ok (.i2l, 1) := by decide +kernel
theorem dX1_excess_38 : decode cX1_excess 38 = .ok (.lload 8, 2) := by decide +kernel
theorem dX1_excess_40 : decode cX1_excess 40 = .ok (.lmul, 1) := by decide +kernel
theorem dX1_excess_41 : decode cX1_excess 41 = .ok (.lsub, 1) := by decide +kernel
theorem dX1_excess_42 : decode cX1_excess 42 = .ok (.lreturn, 1) := by decide +kernel
set_option maxRecDepth 20000 in
theorem ggX1_touched_X1_excess : GoodIn wsX1_touched wsX1_excess := goodIn_r _ [9, 10, 11, 12, 13, 14, 15, 16, 17, 18] (by decide +kernel) (by decide +kernel)
set_option maxRecDepth 20000 in
theorem gX1_touched_X1_excess : GoodIn wsX1_touched (wsV RX1 70 RX1 yX1_excess wsX1_excess) := goodIn_app (goodIn_of _ (by decide +kernel)) ggX1_touched_X1_excess
theorem dX1_touched_0 : decode cX1_touched 0 = .ok (.iconst 0, 1) := by decide +kernel
theorem dX1_touched_1 : decode cX1_touched 1 = .ok (.istore_n 3, 1) := by decide +kernel
theorem dX1_touched_2 : decode cX1_touched 2 = .ok (.iconst 0, 1) := by decide +kernel
theorem dX1_touched_3 : decode cX1_touched 3 = .ok (.istore 4, 2) := by decide +kernel
theorem dX1_touched_5 : decode cX1_touched 5 = .ok (.iload 4, 2) := by decide +kernel
theorem dX1_touched_7 : decode cX1_touched 7 = .ok (.aload_n 0, 1) := by decide +kernel
theorem dX1_touched_8 : decode cX1_touched 8 = .ok (.getfield 30, 3) := by decide +kernel
theorem dX1_touched_11 : decode cX1_touched 11 = .ok (.if_icmp .ge 45, 3) := by decide +kernel
theorem dX1_touched_14 : decode cX1_touched 14 = .ok (.aload_n 0, 1) := by decide +kernel
theorem dX1_touched_15 : decode cX1_touched 15 = .ok (.iload 4, 2) := by decide +kernel
theorem dX1_touched_17 : decode cX1_touched 17 = .ok (.aload_n 1, 1) := by decide +kernel
theorem dX1_touched_18 : decode cX1_touched 18 = .ok (.getfield 62, 3) := by decide +kernel
theorem dX1_touched_21 : decode cX1_touched 21 = .ok (.iload_n 2, 1) := by decide +kernel
theorem dX1_touched_22 : decode cX1_touched 22 = .ok (.iaload, 1) := by decide +kernel
theorem dX1_touched_23 : decode cX1_touched 23 = .ok (.i2l, 1) := by decide +kernel
theorem dX1_touched_24 : decode cX1_touched 24 = .ok (.aload_n 1, 1) := by decide +kernel
theorem dX1_touched_25 : decode cX1_touched 25 = .ok (.getfield 66, 3) := by decide +kernel
theorem dX1_touched_28 : decode cX1_touched 28 = .ok (.iload_n 2, 1) := by decide +kernel
theorem dX1_touched_29 : decode cX1_touched 29 = .ok (.iaload, 1) := by decide +kernel
theorem dX1_touched_30 : decode cX1_touched 30 = .ok (.i2l, 1) := by decide +kernel
theorem dX1_touched_31 : decode cX1_touched 31 = .ok (.aload_n 1, 1) := by decide +kernel
theorem dX1_touched_32 : decode cX1_touched 32 = .ok (.getfield 68, 3) := by decide +kernel
theorem dX1_touched_35 : decode cX1_touched 35 = .ok (.iload_n 2, 1) := by decide +kernel
theorem dX1_touched_36 : decode cX1_touched 36 = .ok (.iaload, 1) := by decide +kernel
theorem dX1_touched_37 : decode cX1_touched 37 = .ok (.i2l, 1) := by decide +kernel
theorem dX1_touched_38 : decode cX1_touched 38 = .ok (.lconst 1, 1) := by decide +kernel
theorem dX1_touched_39 : decode cX1_touched 39 = .ok (.invokevirtual 70, 3) := by decide +kernel
theorem dX1_touched_42 : decode cX1_touched 42 = .ok (.lconst 0, 1) := by decide +kernel
theorem dX1_touched_43 : decode cX1_touched 43 = .ok (.lcmp, 1) := by decide +kernel
theorem dX1_touched_44 : decode cX1_touched 44 = .ok (.ifCond .ne 6, 3) := by decide +kernel
theorem dX1_touched_47 : decode cX1_touched 47 = .ok (.iinc 3 1, 3) := by decide +kernel
theorem dX1_touched_50 : decode cX1_touched 50 = .ok (.iinc 4 1, 3) := by decide +kernel
theorem dX1_touched_53 : decode cX1_touched 53 = .ok (.goto (-48), 3) := by decide +kernel
theorem dX1_touched_56 : decode cX1_touched 56 = .ok (.iload_n 3, 1) := by decide +kernel
theorem dX1_touched_57 : decode cX1_touched 57 = .ok (.ireturn, 1) := by decide +kernel
theorem dX2_init_0 : decode cX2_init 0 = .ok (.aload_n 0, 1) := by decide +kernel
theorem dX2_init_1 : decode cX2_init 1 = .ok (.invokespecial 1, 3) := by decide +kernel
theorem dX2_init_4 : decode cX2_init 4 = .ok (.aload_n 0, 1) := by decide +kernel
theorem dX2_init_5 : decode cX2_init 5 = .ok (.iconst 4, 1) := by decide +kernel
theorem dX2_init_6 : decode cX2_init 6 = .ok (.newarray .int, 2) := by decide +kernel
theorem dX2_init_8 : decode cX2_init 8 = .ok (.putfield 7, 3) := by decide +kernel
theorem dX2_init_11 : decode cX2_init 11 = .ok (.aload_n 0, 1) := by decide +kernel
theorem dX2_init_12 : decode cX2_init 12 = .ok (.iload_n 1, 1) := by decide +kernel
theorem dX2_init_13 : decode cX2_init 13 = .ok (.iconst 3, 1) := by decide +kernel
theorem dX2_init_14 : decode cX2_init 14 = .ok (.invokestatic 13, 3) := by decide +kernel
theorem dX2_init_17 : decode cX2_init 17 = .ok (.putfield 19, 3) := by decide +kernel
theorem dX2_init_20 : decode cX2_init 20 = .ok (.iconst 4, 1) := by decide +kernel
theorem dX2_init_21 : decode cX2_init 21 = .ok (.newarray .int, 2) := by decide +kernel
theorem dX2_init_23 : decode cX2_init 23 = .ok (.astore_n 3, 1) := by decide +kernel
theorem dX2_init_24 : decode cX2_init 24 = .ok (.iconst 0, 1) := by decide +kernel
theorem dX2_init_25 : decode cX2_init 25 = .ok (.istore 4, 2) := by decide +kernel
theorem dX2_init_27 : decode cX2_init 27 = .ok (.iload 4, 2) := by decide +kernel
theorem dX2_init_29 : decode cX2_init 29 = .ok (.aload_n 0, 1) := by decide +kernel
theorem dX2_init_30 : decode cX2_init 30 = .ok (.getfield 19, 3) := by decide +kernel
theorem dX2_init_33 : decode cX2_init 33 = .ok (.if_icmp .gt 24, 3) := by decide +kernel
theorem dX2_init_36 : decode cX2_init 36 = .ok (.iload 4, 2) := by decide +kernel
theorem dX2_init_38 : decode cX2_init 38 = .ok (.aload_n 2, 1) := by decide +kernel
theorem dX2_init_39 : decode cX2_init 39 = .ok (.arraylength, 1) := by decide +kernel
theorem dX2_init_40 : decode cX2_init 40 = .ok (.if_icmp .ge 17, 3) := by decide +kernel
theorem dX2_init_43 : decode cX2_init 43 = .ok (.aload_n 3, 1) := by decide +kernel
theorem dX2_init_44 : decode cX2_init 44 = .ok (.iload 4, 2) := by decide +kernel
theorem dX2_init_46 : decode cX2_init 46 = .ok (.aload_n 2, 1) := by decide +kernel
theorem dX2_init_47 : decode cX2_init 47 = .ok (.iload 4, 2) := by decide +kernel
theorem dX2_init_49 : decode cX2_init 49 = .ok (.iaload, 1) := by decide +kernel
theorem dX2_init_50 : decode cX2_init 50 = .ok (.iastore, 1) := by decide +kernel
theorem dX2_init_51 : decode cX2_init 51 = .ok (.iinc 4 1, 3) := by decide +kernel
theorem dX2_init_54 : decode cX2_init 54 = .ok (.goto (-27), 3) := by decide +kernel
theorem dX2_init_57 : decode cX2_init 57 = .ok (.iconst 1, 1) := by decide +kernel
theorem dX2_init_58 : decode cX2_init 58 = .ok (.istore 4, 2) := by decide +kernel
theorem dX2_init_60 : decode cX2_init 60 = .ok (.iload 4, 2) := by decide +kernel
theorem dX2_init_62 : decode cX2_init 62 = .ok (.aload_n 0, 1) := by decide +kernel
theorem dX2_init_63 : decode cX2_init 63 = .ok (.getfield 19, 3) := by decide +kernel
theorem dX2_init_66 : decode cX2_init 66 = .ok (.if_icmp .gt 41, 3) := by decide +kernel
theorem dX2_init_69 : decode cX2_init 69 = .ok (.aload_n 0, 1) := by decide +kernel
theorem dX2_init_70 : decode cX2_init 70 = .ok (.getfield 19, 3) := by decide +kernel
theorem dX2_init_73 : decode cX2_init 73 = .ok (.istore 5, 2) := by decide +kernel
theorem dX2_init_75 : decode cX2_init 75 = .ok (.iload 5, 2) := by decide +kernel
theorem dX2_init_77 : decode cX2_init 77 = .ok (.iload 4, 2) := by decide +kernel
theorem dX2_init_79 : decode cX2_init 79 = .ok (.if_icmp .lt 22, 3) := by decide +kernel
theorem dX2_init_82 : decode cX2_init 82 = .ok (.aload_n 3, 1) := by decide +kernel
theorem dX2_init_83 : decode cX2_init 83 = .ok (.iload 5, 2) := by decide +kernel
theorem dX2_init_85 : decode cX2_init 85 = .ok (.dup2, 1) := by decide +kernel
theorem dX2_init_86 : decode cX2_init 86 = .ok (.iaload, 1) := by decide +kernel
theorem dX2_init_87 : decode cX2_init 87 = .ok (.aload_n 3, 1) := by decide +kernel
theorem dX2_init_88 : decode cX2_init 88 = .ok (.iload 5, 2) := by decide +kernel
theorem dX2_init_90 : decode cX2_init 90 = .ok (.iconst 1, 1) := by decide +kernel
theorem dX2_init_91 : decode cX2_init 91 = .ok (.isub, 1) := by decide +kernel
theorem dX2_init_92 : decode cX2_init 92 = .ok (.iaload, 1) := by decide +kernel
theorem dX2_init_93 : decode cX2_init 93 = .ok (.isub, 1) := by decide +kernel
theorem dX2_init_94 : decode cX2_init 94 = .ok (.iastore, 1) := by decide +kernel
theorem dX2_init_95 : decode cX2_init 95 = .ok (.iinc 5 (-1), 3) := by decide +kernel
theorem dX2_init_98 : decode cX2_init 98 = .ok (.goto (-23), 3) := by decide +kernel
theorem dX2_init_101 : decode cX2_init 101 = .ok (.iinc 4 1, 3) := by decide +kernel
theorem dX2_init_104 : decode cX2_init 104 = .ok (.goto (-44), 3) := by decide +kernel
theorem dX2_init_107 : decode cX2_init 107 = .ok (.aload_n 0, 1) := by decide +kernel
theorem dX2_init_108 : decode cX2_init 108 = .ok (.getfield 7, 3) := by decide +kernel
theorem dX2_init_111 : decode cX2_init 111 = .ok (.iconst 0, 1) := by decide +kernel
theorem dX2_init_112 : decode cX2_init 112 = .ok (.bipush 6, 2) := by decide +kernel
theorem dX2_init_114 : decode cX2_init 114 = .ok (.aload_n 3, 1) := by decide +kernel
theorem dX2_init_115 : decode cX2_init 115 = .ok (.iconst 0, 1) := by decide +kernel
theorem dX2_init_116 : decode cX2_init 116 = .ok (.iaload, 1) := by decide +kernel
theorem dX2_init_117 : decode cX2_init 117 = .ok (.imul, 1) := by decide +kernel
theorem dX2_init_118 : decode cX2_init 118 = .ok (.iastore, 1) := by decide +kernel
theorem dX2_init_119 : decode cX2_init 119 = .ok (.aload_n 0, 1) := by decide +kernel
theorem dX2_init_120 : decode cX2_init 120 = .ok (.getfield 7, 3) := by decide +kernel
theorem dX2_init_123 : decode cX2_init 123 = .ok (.iconst 1, 1) := by decide +kernel
theorem dX2_init_124 : decode cX2_init 124 = .ok (.bipush 6, 2) := by decide +kernel
theorem dX2_init_126 : decode cX2_init 126 = .ok (.aload_n 3, 1) := by decide +kernel
theorem dX2_init_127 : decode cX2_init 127 = .ok (.iconst 1, 1) := by decide +kernel
theorem dX2_init_128 : decode cX2_init 128 = .ok (.iaload, 1) := by decide +kernel
theorem dX2_init_129 : decode cX2_init 129 = .ok (.imul, 1) := by decide +kernel
theorem dX2_init_130 : decode cX2_init 130 = .ok (.iconst 3, 1) := by decide +kernel
theorem dX2_init_131 : decode cX2_init 131 = .ok (.aload_n 3, 1) := by decide +kernel
theorem dX2_init_132 : decode cX2_init 132 = .ok (.iconst 2, 1) := by decide +kernel
theorem dX2_init_133 : decode cX2_init 133 = .ok (.iaload, 1) := by decide +kernel
theorem dX2_init_134 : decode cX2_init 134 = .ok (.imul, 1) := by decide +kernel
theorem dX2_init_135 : decode cX2_init 135 = .ok (.isub, 1) := by decide +kernel
theorem dX2_init_136 : decode cX2_init 136 = .ok (.iconst 2, 1) := by decide +kernel
theorem dX2_init_137 : decode cX2_init 137 = .ok (.aload_n 3, 1) := by decide +kernel
theorem dX2_init_138 : decode cX2_init 138 = .ok (.iconst 3, 1) := by decide +kernel
theorem dX2_init_139 : decode cX2_init 139 = .ok (.iaload, 1) := by decide +kernel
theorem dX2_init_140 : decode cX2_init 140 = .ok (.imul, 1) := by decide +kernel
theorem dX2_init_141 : decode cX2_init 141 = .ok (.iadd, 1) := by decide +kernel
theorem dX2_init_142 : decode cX2_init 142 = .ok (.iastore, 1) := by decide +kernel
theorem dX2_init_143 : decode cX2_init 143 = .ok (.aload_n 0, 1) := by decide +kernel
theorem dX2_init_144 : decode cX2_init 144 = .ok (.getfield 7, 3) := by decide +kernel
theorem dX2_init_147 : decode cX2_init 147 = .ok (.iconst 2, 1) := by decide +kernel
theorem dX2_init_148 : decode cX2_init 148 = .ok (.iconst 3, 1) := by decide +kernel
theorem dX2_init_149 : decode cX2_init 149 = .ok (.aload_n 3, 1) := by decide +kernel
theorem dX2_init_150 : decode cX2_init 150 = .ok (.iconst 2, 1) := by decide +kernel
theorem dX2_init_151 : decode cX2_init 151 = .ok (.iaload, 1) := by decide +kernel
theorem dX2_init_152 : decode cX2_init 152 = .ok (.imul, 1) := by decide +kernel
theorem dX2_init_153 : decode cX2_init 153 = .ok (.iconst 3, 1) := by decide +kernel
theorem dX2_init_154 : decode cX2_init 154 = .ok (.aload_n 3, 1) := by decide +kernel
theorem dX2_init_155 : decode cX2_init 155 = .ok (.iconst 3, 1) := by decide +kernel
theorem dX2_init_156 : decode cX2_init 156 = .ok (.iaload, 1) := by decide +kernel
theorem dX2_init_157 : decode cX2_init 157 = .ok (.imul, 1) := by decide +kernel
theorem dX2_init_158 : decode cX2_init 158 = .ok (.isub, 1) := by decide +kernel
theorem dX2_init_159 : decode cX2_init 159 = .ok (.iastore, 1) := by decide +kernel
theorem dX2_init_160 : decode cX2_init 160 = .ok (.aload_n 0, 1) := by decide +kernel
theorem dX2_init_161 : decode cX2_init 161 = .ok (.getfield 7, 3) := by decide +kernel
theorem dX2_init_164 : decode cX2_init 164 = .ok (.iconst 3, 1) := by decide +kernel
theorem dX2_init_165 : decode cX2_init 165 = .ok (.aload_n 3, 1) := by decide +kernel
theorem dX2_init_166 : decode cX2_init 166 = .ok (.iconst 3, 1) := by decide +kernel
theorem dX2_init_167 : decode cX2_init 167 = .ok (.iaload, 1) := by decide +kernel
theorem dX2_init_168 : decode cX2_init 168 = .ok (.iastore, 1) := by decide +kernel
theorem dX2_init_169 : decode cX2_init 169 = .ok (.return_, 1) := by decide +kernel
theorem dX2_at_0 : decode cX2_at 0 = .ok (.aload_n 0, 1) := by decide +kernel
theorem dX2_at_1 : decode cX2_at 1 = .ok (.getfield 7, 3) := by decide +kernel
theorem dX2_at_4 : decode cX2_at 4 = .ok (.iconst 3, 1) := by decide +kernel
theorem dX2_at_5 : decode cX2_at 5 = .ok (.iaload, 1) := by decide +kernel
theorem dX2_at_6 : decode cX2_at 6 = .ok (.i2l, 1) := by decide +kernel
theorem dX2_at_7 : decode cX2_at 7 = .ok (.lload_n 1, 1) := by decide +kernel
theorem dX2_at_8 : decode cX2_at 8 = .ok (.lmul, 1) := by decide +kernel
theorem dX2_at_9 : decode cX2_at 9 = .ok (.aload_n 0, 1) := by decide +kernel
theorem dX2_at_10 : decode cX2_at 10 = .ok (.getfield 7, 3) := by decide +kernel
theorem dX2_at_13 : decode cX2_at 13 = .ok (.iconst 2, 1) := by decide +kernel
theorem dX2_at_14 : decode cX2_at 14 = .ok (.iaload, 1) := by decide +kernel
theorem dX2_at_15 : decode cX2_at 15 = .ok (.i2l, 1) := by decide +kernel
theorem dX2_at_16 : decode cX2_at 16 = .ok (.ladd, 1) := by decide +kernel
theorem dX2_at_17 : decode cX2_at 17 = .ok (.lload_n 1, 1) := by decide +kernel
theorem dX2_at_18 : decode cX2_at 18 = .ok (.lmul, 1) := by decide +kernel
theorem dX2_at_19 : decode cX2_at 19 = .ok (.aload_n 0, 1) := by decide +kernel
theorem dX2_at_20 : decode cX2_at 20 = .ok (.getfield 7, 3) := by decide +kernel
theorem dX2_at_23 : decode cX2_at 23 = .ok (.iconst 1, 1) := by decide +kernel
theorem dX2_at_24 : decode cX2_at 24 = .ok (.iaload, 1) := by decide +kernel
theorem dX2_at_25 : decode cX2_at 25 = .ok (.i2l, 1) := by decide +kernel
theorem dX2_at_26 : decode cX2_at 26 = .ok (.ladd, 1) := by decide +kernel
theorem dX2_at_27 : decode cX2_at 27 = .ok (.lload_n 1, 1) := by decide +kernel
theorem dX2_at_28 : decode cX2_at 28 = .ok (.lmul, 1) := by decide +kernel
theorem dX2_at_29 : decode cX2_at 29 = .ok (.aload_n 0, 1) := by decide +kernel
theorem dX2_at_30 : decode cX2_at 30 = .ok (.getfield 7, 3) := by decide +kernel
theorem dX2_at_33 : decode cX2_at 33 = .ok (.iconst 0, 1) := by decide +kernel
theorem dX2_at_34 : decode cX2_at 34 = .ok (.iaload, 1) := by decide +kernel
theorem dX2_at_35 : decode cX2_at 35 = .ok (.i2l, 1) := by decide +kernel
theorem dX2_at_36 : decode cX2_at 36 = .ok (.ladd, 1) := by decide +kernel
theorem dX2_at_37 : decode cX2_at 37 = .ok (.ldc2_w 23, 3) := by decide +kernel
theorem dX2_at_40 : decode cX2_at 40 = .ok (.ldiv, 1) := by decide +kernel
theorem dX2_at_41 : decode cX2_at 41 = .ok (.lreturn, 1) := by decide +kernel
set_option maxRecDepth 20000 in
theorem ggX2_stair_X2_at : GoodIn wsX2_stair wsX2_at := goodIn_r _ [6, 7, 8, 9, 10] (by decide +kernel) (by decide +kernel)
set_option maxRecDepth 20000 in
theorem gX2_stair_X2_at : GoodIn wsX2_stair (wsV RX2 25 RX2 yX2_at wsX2_at) := goodIn_app (goodIn_of _ (by decide +kernel)) ggX2_stair_X2_at
theorem dX2_stair_0 : decode cX2_stair 0 = .ok (.lconst 0, 1) := by decide +kernel
theorem dX2_stair_1 : decode cX2_stair 1 = .ok (.lstore_n 2, 1) := by decide +kernel
theorem dX2_stair_2 : decode cX2_stair 2 = .ok (.lconst 1, 1) := by decide +kernel
theorem dX2_stair_3 : decode cX2_stair 3 = .ok (.lstore 4, 2) := by decide +kernel
theorem dX2_stair_5 : decode cX2_stair 5 = .ok (.iconst 0, 1) := by decide +kernel
theorem dX2_stair_6 : decode cX2_stair 6 = .ok (.istore 6, 2) := by decide +kernel
theorem dX2_stair_8 : decode cX2_stair 8 = .ok (.iload 6, 2) := by decide +kernel
theorem dX2_stair_10 : decode cX2_stair 10 = .ok (.iload_n 1, 1) := by decide +kernel
theorem dX2_stair_11 : decode cX2_stair 11 = .ok (.if_icmp .gt 46, 3) := by decide +kernel
theorem dX2_stair_14 : decode cX2_stair 14 = .ok (.lload_n 2, 1) := by decide +kernel
theorem dX2_stair_15 : decode cX2_stair 15 = .ok (.lload 4, 2) := by decide +kernel
theorem dX2_stair_17 : decode cX2_stair 17 = .ok (.aload_n 0, 1) := by decide +kernel
theorem dX2_stair_18 : decode cX2_stair 18 = .ok (.iload_n 1, 1) := by decide +kernel
theorem dX2_stair_19 : decode cX2_stair 19 = .ok (.iload 6, 2) := by decide +kernel
theorem dX2_stair_21 : decode cX2_stair 21 = .ok (.isub, 1) := by decide +kernel
theorem dX2_stair_22 : decode cX2_stair 22 = .ok (.i2l, 1) := by decide +kernel
theorem dX2_stair_23 : decode cX2_stair 23 = .ok (.invokevirtual 25, 3) := by decide +kernel
theorem dX2_stair_26 : decode cX2_stair 26 = .ok (.lmul, 1) := by decide +kernel
theorem dX2_stair_27 : decode cX2_stair 27 = .ok (.ladd, 1) := by decide +kernel
theorem dX2_stair_28 : decode cX2_stair 28 = .ok (.lstore_n 2, 1) := by decide +kernel
theorem dX2_stair_29 : decode cX2_stair 29 = .ok (.lload 4, 2) := by decide +kernel
theorem dX2_stair_31 : decode cX2_stair 31 = .ok (.lneg, 1) := by decide +kernel
theorem dX2_stair_32 : decode cX2_stair 32 = .ok (.aload_n 0, 1) := by decide +kernel
theorem dX2_stair_33 : decode cX2_stair 33 = .ok (.getfield 19, 3) := by decide +kernel
theorem dX2_stair_36 : decode cX2_stair 36 = .ok (.iconst 1, 1) := by decide +kernel
theorem dX2_stair_37 : decode cX2_stair 37 = .ok (.iadd, 1) := by decide +kernel
theorem dX2_stair_38 : decode cX2_stair 38 = .ok (.iload 6, 2) := by decide +kernel
theorem dX2_stair_40 : decode cX2_stair 40 = .ok (.isub, 1) := by decide +kernel
theorem dX2_stair_41 : decode cX2_stair 41 = .ok (.i2l, 1) := by decide +kernel
theorem dX2_stair_42 : decode cX2_stair 42 = .ok (.lmul, 1) := by decide +kernel
theorem dX2_stair_43 : decode cX2_stair 43 = .ok (.iload 6, 2) := by decide +kernel
theorem dX2_stair_45 : decode cX2_stair 45 = .ok (.iconst 1, 1) := by decide +kernel
theorem dX2_stair_46 : decode cX2_stair 46 = .ok (.iadd, 1) := by decide +kernel
theorem dX2_stair_47 : decode cX2_stair 47 = .ok (.i2l, 1) := by decide +kernel
theorem dX2_stair_48 : decode cX2_stair 48 = .ok (.ldiv, 1) := by decide +kernel
theorem dX2_stair_49 : decode cX2_stair 49 = .ok (.lstore 4, 2) := by decide +kernel
theorem dX2_stair_51 : decode cX2_stair 51 = .ok (.iinc 6 1, 3) := by decide +kernel
theorem dX2_stair_54 : decode cX2_stair 54 = .ok (.goto (-46), 3) := by decide +kernel
theorem dX2_stair_57 : decode cX2_stair 57 = .ok (.lload_n 2, 1) := by decide +kernel
theorem dX2_stair_58 : decode cX2_stair 58 = .ok (.l2i, 1) := by decide +kernel
theorem dX2_stair_59 : decode cX2_stair 59 = .ok (.ireturn, 1) := by decide +kernel
set_option maxRecDepth 20000 in
theorem ggX3_init_X4_init : GoodIn wsX3_init wsX4_init := goodIn_r _ [22, 23, 2, 3, 24, 25, 26, 27, 28, 29, 30, 31, 44, 45, 46, 47] (by decide +kernel) (by decide +kernel)
set_option maxRecDepth 20000 in
theorem gX3_init_X4_init : GoodIn wsX3_init (wsX4_init) := ggX3_init_X4_init
set_option maxRecDepth 20000 in
theorem ggX3_init_X1_init : GoodIn wsX3_init wsX1_init := goodIn_r _ [34, 35, 2, 3, 36, 25, 26, 27, 28, 37, 38, 39, 40, 56, 57, 58, 59, 60] (by decide +kernel) (by decide +kernel)
set_option maxRecDepth 20000 in
theorem gX3_init_X1_init : GoodIn wsX3_init (wsX1_init) := ggX3_init_X1_init
set_option maxRecDepth 20000 in
theorem ggX3_init_X6_init : GoodIn wsX3_init wsX6_init := goodIn_r _ [42, 43, 2, 3] (by decide +kernel) (by decide +kernel)
set_option maxRecDepth 20000 in
theorem gX3_init_X6_init_n32 : GoodIn wsX3_init (wsX6_init) := ggX3_init_X6_init
theorem dX3_init_0 : decode cX3_init 0 = .ok (.aload_n 0, 1) := by decide +kernel
theorem dX3_init_1 : decode cX3_init 1 = .ok (.invokespecial 3, 3) := by decide +kernel
theorem dX3_init_4 : decode cX3_init 4 = .ok (.aload_n 0, 1) := by decide +kernel
theorem dX3_init_5 : decode cX3_init 5 = .ok (.new 9, 3) := by decide +kernel
theorem dX3_init_8 : decode cX3_init 8 = .ok (.dup, 1) := by decide +kernel
theorem dX3_init_9 : decode cX3_init 9 = .ok (.bipush 121, 2) := by decide +kernel
theorem dX3_init_11 : decode cX3_init 11 = .ok (.invokespecial 11, 3) := by decide +kernel
theorem dX3_init_14 : decode cX3_init 14 = .ok (.putfield 14, 3) := by decide +kernel
theorem dX3_init_17 : decode cX3_init 17 = .ok (.aload_n 0, 1) := by decide +kernel
theorem dX3_init_18 : decode cX3_init 18 = .ok (.new 20, 3) := by decide +kernel
theorem dX3_init_21 : decode cX3_init 21 = .ok (.dup, 1) := by decide +kernel
theorem dX3_init_22 : decode cX3_init 22 = .ok (.bipush 80, 2) := by decide +kernel
theorem dX3_init_24 : decode cX3_init 24 = .ok (.invokespecial 22, 3) := by decide +kernel
theorem dX3_init_27 : decode cX3_init 27 = .ok (.putfield 23, 3) := by decide +kernel
theorem dX3_init_30 : decode cX3_init 30 = .ok (.aload_n 0, 1) := by decide +kernel
theorem dX3_init_31 : decode cX3_init 31 = .ok (.new 20, 3) := by decide +kernel
theorem dX3_init_34 : decode cX3_init 34 = .ok (.dup, 1) := by decide +kernel
theorem dX3_init_35 : decode cX3_init 35 = .ok (.iconst 3, 1) := by decide +kernel
theorem dX3_init_36 : decode cX3_init 36 = .ok (.invokespecial 22, 3) := by decide +kernel
theorem dX3_init_39 : decode cX3_init 39 = .ok (.putfield 27, 3) := by decide +kernel
theorem dX3_init_42 : decode cX3_init 42 = .ok (.aload_n 0, 1) := by decide +kernel
theorem dX3_init_43 : decode cX3_init 43 = .ok (.new 30, 3) := by decide +kernel
theorem dX3_init_46 : decode cX3_init 46 = .ok (.dup, 1) := by decide +kernel
theorem dX3_init_47 : decode cX3_init 47 = .ok (.invokespecial 32, 3) := by decide +kernel
theorem dX3_init_50 : decode cX3_init 50 = .ok (.putfield 33, 3) := by decide +kernel
theorem dX3_init_53 : decode cX3_init 53 = .ok (.aload_n 0, 1) := by decide +kernel
theorem dX3_init_54 : decode cX3_init 54 = .ok (.new 30, 3) := by decide +kernel
theorem dX3_init_57 : decode cX3_init 57 = .ok (.dup, 1) := by decide +kernel
theorem dX3_init_58 : decode cX3_init 58 = .ok (.invokespecial 32, 3) := by decide +kernel
theorem dX3_init_61 : decode cX3_init 61 = .ok (.putfield 37, 3) := by decide +kernel
theorem dX3_init_64 : decode cX3_init 64 = .ok (.aload_n 0, 1) := by decide +kernel
theorem dX3_init_65 : decode cX3_init 65 = .ok (.new 30, 3) := by decide +kernel
theorem dX3_init_68 : decode cX3_init 68 = .ok (.dup, 1) := by decide +kernel
theorem dX3_init_69 : decode cX3_init 69 = .ok (.invokespecial 32, 3) := by decide +kernel
theorem dX3_init_72 : decode cX3_init 72 = .ok (.putfield 40, 3) := by decide +kernel
theorem dX3_init_75 : decode cX3_init 75 = .ok (.aload_n 0, 1) := by decide +kernel
theorem dX3_init_76 : decode cX3_init 76 = .ok (.new 30, 3) := by decide +kernel
theorem dX3_init_79 : decode cX3_init 79 = .ok (.dup, 1) := by decide +kernel
theorem dX3_init_80 : decode cX3_init 80 = .ok (.invokespecial 32, 3) := by decide +kernel
theorem dX3_init_83 : decode cX3_init 83 = .ok (.putfield 43, 3) := by decide +kernel
theorem dX3_init_86 : decode cX3_init 86 = .ok (.return_, 1) := by decide +kernel
theorem dX3_begin_0 : decode cX3_begin 0 = .ok (.aload_n 0, 1) := by decide +kernel
theorem dX3_begin_1 : decode cX3_begin 1 = .ok (.getfield 14, 3) := by decide +kernel
theorem dX3_begin_4 : decode cX3_begin 4 = .ok (.iconst 0, 1) := by decide +kernel
theorem dX3_begin_5 : decode cX3_begin 5 = .ok (.putfield 46, 3) := by decide +kernel
theorem dX3_begin_8 : decode cX3_begin 8 = .ok (.return_, 1) := by decide +kernel
set_option maxRecDepth 20000 in
theorem ggX3_takeAll_X4_put : GoodIn wsX3_takeAll wsX4_put := goodIn_r _ [10, 11, 12, 13, 14, 15, 16, 17, 18] (by decide +kernel) (by decide +kernel)
set_option maxRecDepth 20000 in
theorem gX3_takeAll_X4_put : GoodIn wsX3_takeAll (wsV RX3 60 RX4 yX4_put wsX4_put) := goodIn_app (goodIn_of _ (by decide +kernel)) ggX3_takeAll_X4_put
theorem dX3_takeAll_0 : decode cX3_takeAll 0 = .ok (.iconst 0, 1) := by decide +kernel
theorem dX3_takeAll_1 : decode cX3_takeAll 1 = .ok (.istore_n 2, 1) := by decide +kernel
theorem dX3_takeAll_2 : decode cX3_takeAll 2 = .ok (.iload_n 2, 1) := by decide +kernel
theorem dX3_takeAll_3 : decode cX3_takeAll 3 = .ok (.aload_n 1, 1) := by decide +kernel
theorem dX3_takeAll_4 : decode cX3_takeAll 4 = .ok (.getfield 46, 3) := by decide +kernel
theorem dX3_takeAll_7 : decode cX3_takeAll 7 = .ok (.if_icmp .ge 34, 3) := by decide +kernel
theorem dX3_takeAll_10 : decode cX3_takeAll 10 = .ok (.aload_n 0, 1) := by decide +kernel
theorem dX3_takeAll_11 : decode cX3_takeAll 11 = .ok (.getfield 14, 3) := by decide +kernel
theorem dX3_takeAll_14 : decode cX3_takeAll 14 = .ok (.aload_n 1, 1) := by decide +kernel
theorem dX3_takeAll_15 : decode cX3_takeAll 15 = .ok (.getfield 50, 3) := by decide +kernel
theorem dX3_takeAll_18 : decode cX3_takeAll 18 = .ok (.iload_n 2, 1) := by decide +kernel
theorem dX3_takeAll_19 : decode cX3_takeAll 19 = .ok (.iaload, 1) := by decide +kernel
theorem dX3_takeAll_20 : decode cX3_takeAll 20 = .ok (.aload_n 1, 1) := by decide +kernel
theorem dX3_takeAll_21 : decode cX3_takeAll 21 = .ok (.getfield 54, 3) := by decide +kernel
theorem dX3_takeAll_24 : decode cX3_takeAll 24 = .ok (.iload_n 2, 1) := by decide +kernel
theorem dX3_takeAll_25 : decode cX3_takeAll 25 = .ok (.iaload, 1) := by decide +kernel
theorem dX3_takeAll_26 : decode cX3_takeAll 26 = .ok (.aload_n 1, 1) := by decide +kernel
theorem dX3_takeAll_27 : decode cX3_takeAll 27 = .ok (.getfield 57, 3) := by decide +kernel
theorem dX3_takeAll_30 : decode cX3_takeAll 30 = .ok (.iload_n 2, 1) := by decide +kernel
theorem dX3_takeAll_31 : decode cX3_takeAll 31 = .ok (.iaload, 1) := by decide +kernel
theorem dX3_takeAll_32 : decode cX3_takeAll 32 = .ok (.invokevirtual 60, 3) := by decide +kernel
theorem dX3_takeAll_35 : decode cX3_takeAll 35 = .ok (.iinc 2 1, 3) := by decide +kernel
theorem dX3_takeAll_38 : decode cX3_takeAll 38 = .ok (.goto (-36), 3) := by decide +kernel
theorem dX3_takeAll_41 : decode cX3_takeAll 41 = .ok (.return_, 1) := by decide +kernel
set_option maxRecDepth 20000 in
theorem ggX3_make_X4_sort : GoodIn wsX3_make wsX4_sort := goodIn_r _ [14, 15, 16, 17, 18, 13, 19, 20, 21, 22, 23, 24, 25, 26, 27, 28, 29, 30, 223, 224, 225, 226] (by decide +kernel) (by decide +kernel)
set_option maxRecDepth 20000 in
theorem gX3_make_X4_sort : GoodIn wsX3_make (wsV RX3 64 RX4 yX4_sort wsX4_sort) := goodIn_app (goodIn_of _ (by decide +kernel)) ggX3_make_X4_sort
set_option maxRecDepth 20000 in
theorem ggX3_make_X4_thin : GoodIn wsX3_make wsX4_thin := goodIn_r _ [34, 15, 16, 17, 18, 13, 19, 20, 21, 22, 35, 36, 37, 38, 27, 28, 29, 30, 223, 224, 225, 226] (by decide +kernel) (by decide +kernel)
set_option maxRecDepth 20000 in
theorem gX3_make_X4_thin : GoodIn wsX3_make (wsV RX3 67 RX4 yX4_thin wsX4_thin) := goodIn_app (goodIn_of _ (by decide +kernel)) ggX3_make_X4_thin
set_option maxRecDepth 20000 in
theorem ggX3_make_X3_findSpace : GoodIn wsX3_make wsX3_findSpace := goodIn_r _ [43, 9, 1, 2, 44, 45, 46, 47, 48, 49, 50, 51, 52, 53, 54, 55, 56, 57, 58, 59, 60, 61, 62, 63, 64, 65, 66, 67, 68, 69, 215, 216, 217, 218, 219, 220, 221, 222, 223, 224, 225, 226, 241, 242, 243] (by decide +kernel) (by decide +kernel)
set_option maxRecDepth 20000 in
theorem gX3_make_X3_findSpace : GoodIn wsX3_make (wsV RX3 71 RX3 yX3_findSpace wsX3_findSpace) := goodIn_app (goodIn_of _ (by decide +kernel)) ggX3_make_X3_findSpace
set_option maxRecDepth 20000 in
theorem ggX3_make_X3_bindSpace : GoodIn wsX3_make wsX3_bindSpace := goodIn_r _ [73, 9, 44, 74, 75, 76, 46, 77, 78, 79, 42, 80, 1, 2, 5, 81, 82, 83, 84, 85, 86, 87, 88, 89, 90, 91, 92, 93, 94, 95, 96, 97, 98, 99, 100, 50, 101, 53, 102, 103, 104, 105, 55, 57, 106, 107, 108, 109, 110, 111, 112, 215, 216, 217, 218, 219, 220, 221, 222, 241, 242, 243, 223, 224, 225, 226, 227, 228, 229, 230, 231] (by decide +kernel) (by decide +kernel)
set_option maxRecDepth 20000 in
theorem gX3_make_X3_bindSpace : GoodIn wsX3_make (wsV RX3 74 RX3 yX3_bindSpace wsX3_bindSpace) := goodIn_app (goodIn_of _ (by decide +kernel)) ggX3_make_X3_bindSpace
set_option maxRecDepth 20000 in
theorem ggX3_make_X3_findEnds : GoodIn wsX3_make wsX3_findEnds := goodIn_r _ [116, 9, 1, 2, 117, 47, 48, 49, 50, 51, 52, 53, 54, 55, 56, 57, 118, 119, 120, 42, 121, 3, 62, 63, 64, 65, 122, 123, 124, 125, 109, 110, 111, 112, 98, 99, 100, 101, 102, 103, 104, 105, 106, 107, 108, 126, 127, 128, 87, 129, 89, 130, 131, 132, 133, 134, 135, 136, 94, 95, 96, 90, 91, 92, 93, 97, 215, 216, 217, 218, 219, 220, 221, 222, 223, 224, 225, 226, 241, 242, 243, 227, 228, 229, 230, 231] (by decide +kernel) (by decide +kernel)
set_option maxRecDepth 20000 in
theorem gX3_make_X3_findEnds : GoodIn wsX3_make (wsV RX3 77 RX3 yX3_findEnds wsX3_findEnds) := goodIn_app (goodIn_of _ (by decide +kernel)) ggX3_make_X3_findEnds
set_option maxRecDepth 20000 in
theorem ggX3_make_X3_findEdges : GoodIn wsX3_make wsX3_findEdges := goodIn_r _ [140, 9, 1, 2, 44, 117, 46, 47, 48, 49, 50, 51, 52, 53, 54, 55, 56, 57, 58, 59, 60, 61, 118, 119, 120, 42, 121, 3, 62, 63, 64, 65, 122, 123, 124, 125, 109, 110, 111, 112, 98, 99, 100, 101, 102, 103, 104, 105, 106, 107, 108, 126, 127, 128, 87, 129, 89, 130, 131, 132, 133, 134, 135, 136, 94, 95, 96, 90, 91, 92, 93, 97, 215, 216, 217, 218, 219, 220, 221, 222, 223, 224, 225, 226, 241, 242, 243, 227, 228, 229, 230, 231] (by decide +kernel) (by decide +kernel)
set_option maxRecDepth 20000 in
theorem gX3_make_X3_findEdges : GoodIn wsX3_make (wsV RX3 80 RX3 yX3_findEdges wsX3_findEdges) := goodIn_app (goodIn_of _ (by decide +kernel)) ggX3_make_X3_findEdges
set_option maxRecDepth 20000 in
theorem ggX3_make_X3_findFaces : GoodIn wsX3_make wsX3_findFaces := goodIn_r _ [144, 9, 1, 2, 44, 45, 117, 47, 48, 49, 50, 51, 52, 53, 54, 55, 56, 57, 58, 59, 60, 61, 118, 119, 120, 42, 121, 3, 62, 63, 64, 65, 122, 123, 124, 125, 109, 110, 111, 112, 98, 99, 100, 101, 102, 103, 104, 105, 106, 107, 108, 126, 127, 128, 87, 129, 89, 130, 131, 132, 133, 134, 135, 136, 94, 95, 96, 90, 91, 92, 93, 97, 215, 216, 217, 218, 219, 220, 221, 222, 223, 224, 225, 226, 241, 242, 243, 227, 228, 229, 230, 231] (by decide +kernel) (by decide +kernel)
set_option maxRecDepth 20000 in
theorem gX3_make_X3_findFaces : GoodIn wsX3_make (wsV RX3 83 RX3 yX3_findFaces wsX3_findFaces) := goodIn_app (goodIn_of _ (by decide +kernel)) ggX3_make_X3_findFaces
set_option maxRecDepth 20000 in
theorem ggX3_make_X3_cornersFound : GoodIn wsX3_make wsX3_cornersFound := goodIn_r _ [148, 1, 2, 3, 9, 149, 150, 151, 87, 152, 89, 153, 154, 155, 156, 157, 158, 159, 94, 95, 96, 97, 160, 28, 29, 13, 30, 20, 21, 22, 161, 162, 163, 164, 165, 166, 15, 167, 168, 169, 170, 171, 172, 173, 174, 175, 176, 177, 178, 104, 179, 180, 215, 216, 217, 218, 219, 220, 221, 222, 223, 224, 225, 226, 227, 228, 229, 230, 231] (by decide +kernel) (by decide +kernel)
set_option maxRecDepth 20000 in
theorem gX3_make_X3_cornersFound : GoodIn wsX3_make (wsV RX3 91 RX3 yX3_cornersFound wsX3_cornersFound) := goodIn_app (goodIn_of _ (by decide +kernel)) ggX3_make_X3_cornersFound
set_option maxRecDepth 20000 in
theorem ggX3_make_X1_trimmed : GoodIn wsX3_make wsX1_trimmed := goodIn_r _ [184, 185, 186, 87, 89, 94, 187, 168, 169, 170, 95, 96, 97, 188, 189, 190, 191, 175, 176, 192, 178, 104, 179, 180, 227, 228, 229, 230, 231] (by decide +kernel) (by decide +kernel)
set_option maxRecDepth 20000 in
theorem gX3_make_X1_trimmed : GoodIn wsX3_make (wsV RX3 95 RX1 yX1_trimmed wsX1_trimmed) := goodIn_app (goodIn_of _ (by decide +kernel)) ggX3_make_X1_trimmed
set_option maxRecDepth 20000 in
theorem ggX3_make_X0_init : GoodIn wsX3_make wsX0_init := goodIn_r _ [195, 196, 175, 176, 180, 197, 198, 199, 200, 201, 202, 203, 204, 205, 206, 207, 208, 104, 209, 210, 178, 179, 211, 212, 213, 13, 214, 15, 20, 21, 22, 232, 233, 234, 235, 236, 237, 238, 239, 240, 223, 224, 225, 226] (by decide +kernel) (by decide +kernel)
set_option maxRecDepth 20000 in
theorem gX3_make_X0_init : GoodIn wsX3_make (wsX0_init) := ggX3_make_X0_init
theorem dX3_make_0 : decode cX3_make 0 = .ok (.aload_n 0, 1) := by decide +kernel
theorem dX3_make_1 : decode cX3_make 1 = .ok (.getfield 14, 3) := by decide +kernel
theorem dX3_make_4 : decode cX3_make 4 = .ok (.getfield 46, 3) := by decide +kernel
theorem dX3_make_7 : decode cX3_make 7 = .ok (.istore_n 1, 1) := by decide +kernel
theorem dX3_make_8 : decode cX3_make 8 = .ok (.aload_n 0, 1) := by decide +kernel
theorem dX3_make_9 : decode cX3_make 9 = .ok (.getfield 14, 3) := by decide +kernel
theorem dX3_make_12 : decode cX3_make 12 = .ok (.invokevirtual 64, 3) := by decide +kernel
theorem dX3_make_15 : decode cX3_make 15 = .ok (.aload_n 0, 1) := by decide +kernel
theorem dX3_make_16 : decode cX3_make 16 = .ok (.getfield 14, 3) := by decide +kernel
theorem dX3_make_19 : decode cX3_make 19 = .ok (.invokevirtual 67, 3) := by decide +kernel
theorem dX3_make_22 : decode cX3_make 22 = .ok (.aload_n 0, 1) := by decide +kernel
theorem dX3_make_23 : decode cX3_make 23 = .ok (.getfield 23, 3) := by decide +kernel
theorem dX3_make_26 : decode cX3_make 26 = .ok (.iconst 0, 1) := by decide +kernel
theorem dX3_make_27 : decode cX3_make 27 = .ok (.putfield 70, 3) := by decide +kernel
theorem dX3_make_30 : decode cX3_make 30 = .ok (.aload_n 0, 1) := by decide +kernel
theorem dX3_make_31 : decode cX3_make 31 = .ok (.getfield 27, 3) := by decide +kernel
theorem dX3_make_34 : decode cX3_make 34 = .ok (.iconst 0, 1) := by decide +kernel
theorem dX3_make_35 : decode cX3_make 35 = .ok (.putfield 70, 3) := by decide +kernel
theorem dX3_make_38 : decode cX3_make 38 = .ok (.aload_n 0, 1) := by decide +kernel
theorem dX3_make_39 : decode cX3_make 39 = .ok (.invokevirtual 71, 3) := by decide +kernel
theorem dX3_make_42 : decode cX3_make 42 = .ok (.aload_n 0, 1) := by decide +kernel
theorem dX3_make_43 : decode cX3_make 43 = .ok (.invokevirtual 74, 3) := by decide +kernel
theorem dX3_make_46 : decode cX3_make 46 = .ok (.aload_n 0, 1) := by decide +kernel
theorem dX3_make_47 : decode cX3_make 47 = .ok (.invokevirtual 77, 3) := by decide +kernel
theorem dX3_make_50 : decode cX3_make 50 = .ok (.aload_n 0, 1) := by decide +kernel
theorem dX3_make_51 : decode cX3_make 51 = .ok (.invokevirtual 80, 3) := by decide +kernel
theorem dX3_make_54 : decode cX3_make 54 = .ok (.aload_n 0, 1) := by decide +kernel
theorem dX3_make_55 : decode cX3_make 55 = .ok (.invokevirtual 83, 3) := by decide +kernel
theorem dX3_make_58 : decode cX3_make 58 = .ok (.new 86, 3) := by decide +kernel
theorem dX3_make_61 : decode cX3_make 61 = .ok (.dup, 1) := by decide +kernel
theorem dX3_make_62 : decode cX3_make 62 = .ok (.aload_n 0, 1) := by decide +kernel
theorem dX3_make_63 : decode cX3_make 63 = .ok (.getfield 88, 3) := by decide +kernel
theorem dX3_make_66 : decode cX3_make 66 = .ok (.iload_n 1, 1) := by decide +kernel
theorem dX3_make_67 : decode cX3_make 67 = .ok (.aload_n 0, 1) := by decide +kernel
theorem dX3_make_68 : decode cX3_make 68 = .ok (.invokevirtual 91, 3) := by decide +kernel
theorem dX3_make_71 : decode cX3_make 71 = .ok (.aload_n 0, 1) := by decide +kernel
theorem dX3_make_72 : decode cX3_make 72 = .ok (.getfield 23, 3) := by decide +kernel
theorem dX3_make_75 : decode cX3_make 75 = .ok (.invokevirtual 95, 3) := by decide +kernel
theorem dX3_make_78 : decode cX3_make 78 = .ok (.aload_n 0, 1) := by decide +kernel
theorem dX3_make_79 : decode cX3_make 79 = .ok (.getfield 27, 3) := by decide +kernel
theorem dX3_make_82 : decode cX3_make 82 = .ok (.invokevirtual 95, 3) := by decide +kernel
theorem dX3_make_85 : decode cX3_make 85 = .ok (.invokespecial 99, 3) := by decide +kernel
theorem dX3_make_88 : decode cX3_make 88 = .ok (.areturn, 1) := by decide +kernel
set_option maxRecDepth 20000 in
theorem ggX3_findSpace_X6_lead : GoodIn wsX3_findSpace wsX6_lead := goodIn_r _ [11, 12, 13, 14, 15, 16, 17, 38, 39, 40, 41, 42, 43, 44] (by decide +kernel) (by decide +kernel)
set_option maxRecDepth 20000 in
theorem gX3_findSpace_X6_lead : GoodIn wsX3_findSpace (wsV RX3 102 RX6 yX6_lead wsX6_lead) := goodIn_app (goodIn_of _ (by decide +kernel)) ggX3_findSpace_X6_lead
set_option maxRecDepth 20000 in
theorem ggX3_findSpace_X6_square : GoodIn wsX3_findSpace wsX6_square := goodIn_r _ [21, 15, 17, 13, 42, 43, 44] (by decide +kernel) (by decide +kernel)
set_option maxRecDepth 20000 in
theorem gX3_findSpace_X6_square : GoodIn wsX3_findSpace (wsV RX3 106 RX6 yX6_square wsX6_square) := goodIn_app (goodIn_of _ (by decide +kernel)) ggX3_findSpace_X6_square
set_option maxRecDepth 20000 in
theorem ggX3_findSpace_X6_isNought : GoodIn wsX3_findSpace wsX6_isNought := goodIn_r _ [25, 13, 15, 17, 42, 43, 44] (by decide +kernel) (by decide +kernel)
set_option maxRecDepth 20000 in
theorem gX3_findSpace_X6_isNought : GoodIn wsX3_findSpace (wsV RX3 109 RX6 yX6_isNought wsX6_isNought) := goodIn_app (goodIn_of _ (by decide +kernel)) ggX3_findSpace_X6_isNought
set_option maxRecDepth 20000 in
theorem ggX3_findSpace_X6_times : GoodIn wsX3_findSpace wsX6_times := goodIn_r _ [29, 13, 15, 17, 42, 43, 44] (by decide +kernel) (by decide +kernel)
set_option maxRecDepth 20000 in
theorem gX3_findSpace_X6_times : GoodIn wsX3_findSpace (wsV RX3 113 RX6 yX6_times wsX6_times) := goodIn_app (goodIn_of _ (by decide +kernel)) ggX3_findSpace_X6_times
theorem dX3_findSpace_0 : decode cX3_findSpace 0 = .ok (.aload_n 0, 1) := by decide +kernel
theorem dX3_findSpace_1 : decode cX3_findSpace 1 = .ok (.iconst 0, 1) := by decide +kernel
theorem dX3_findSpace_2 : decode cX3_findSpace 2 = .ok (.putfield 88, 3) := by decide +kernel
theorem dX3_findSpace_5 : decode cX3_findSpace 5 = .ok (.aload_n 0, 1) := by decide +kernel
theorem dX3_findSpace_6 : decode cX3_findSpace 6 = .ok (.getfield 14, 3) := by decide +kernel
theorem dX3_findSpace_9 : decode cX3_findSpace 9 = .ok (.getfield 46, 3) := by decide +kernel
theorem dX3_findSpace_12 : decode cX3_findSpace 12 = .ok (.iconst 2, 1) := by decide +kernel
theorem dX3_findSpace_13 : decode cX3_findSpace 13 = .ok (.if_icmp .ge 4, 3) := by decide +kernel
theorem dX3_findSpace_16 : decode cX3_findSpace 16 = .ok (.return_, 1) := by decide +kernel
theorem dX3_findSpace_17 : decode cX3_findSpace 17 = .ok (.aload_n 0, 1) := by decide +kernel
theorem dX3_findSpace_18 : decode cX3_findSpace 18 = .ok (.iconst 1, 1) := by decide +kernel
theorem dX3_findSpace_19 : decode cX3_findSpace 19 = .ok (.putfield 88, 3) := by decide +kernel
theorem dX3_findSpace_22 : decode cX3_findSpace 22 = .ok (.aload_n 0, 1) := by decide +kernel
theorem dX3_findSpace_23 : decode cX3_findSpace 23 = .ok (.getfield 33, 3) := by decide +kernel
theorem dX3_findSpace_26 : decode cX3_findSpace 26 = .ok (.aload_n 0, 1) := by decide +kernel
theorem dX3_findSpace_27 : decode cX3_findSpace 27 = .ok (.getfield 14, 3) := by decide +kernel
theorem dX3_findSpace_30 : decode cX3_findSpace 30 = .ok (.iconst 0, 1) := by decide +kernel
theorem dX3_findSpace_31 : decode cX3_findSpace 31 = .ok (.iconst 1, 1) := by decide +kernel
theorem dX3_findSpace_32 : decode cX3_findSpace 32 = .ok (.invokevirtual 102, 3) := by decide +kernel
theorem dX3_findSpace_35 : decode cX3_findSpace 35 = .ok (.iconst 2, 1) := by decide +kernel
theorem dX3_findSpace_36 : decode cX3_findSpace 36 = .ok (.istore_n 1, 1) := by decide +kernel
theorem dX3_findSpace_37 : decode cX3_findSpace 37 = .ok (.iload_n 1, 1) := by decide +kernel
theorem dX3_findSpace_38 : decode cX3_findSpace 38 = .ok (.aload_n 0, 1) := by decide +kernel
theorem dX3_findSpace_39 : decode cX3_findSpace 39 = .ok (.getfield 14, 3) := by decide +kernel
theorem dX3_findSpace_42 : decode cX3_findSpace 42 = .ok (.getfield 46, 3) := by decide +kernel
theorem dX3_findSpace_45 : decode cX3_findSpace 45 = .ok (.if_icmp .ge 60, 3) := by decide +kernel
theorem dX3_findSpace_48 : decode cX3_findSpace 48 = .ok (.aload_n 0, 1) := by decide +kernel
theorem dX3_findSpace_49 : decode cX3_findSpace 49 = .ok (.getfield 88, 3) := by decide +kernel
theorem dX3_findSpace_52 : decode cX3_findSpace 52 = .ok (.iconst 1, 1) := by decide +kernel
theorem dX3_findSpace_53 : decode cX3_findSpace 53 = .ok (.if_icmp .ne 52, 3) := by decide +kernel
theorem dX3_findSpace_56 : decode cX3_findSpace 56 = .ok (.aload_n 0, 1) := by decide +kernel
theorem dX3_findSpace_57 : decode cX3_findSpace 57 = .ok (.getfield 37, 3) := by decide +kernel
theorem dX3_findSpace_60 : decode cX3_findSpace 60 = .ok (.aload_n 0, 1) := by decide +kernel
theorem dX3_findSpace_61 : decode cX3_findSpace 61 = .ok (.getfield 14, 3) := by decide +kernel
theorem dX3_findSpace_64 : decode cX3_findSpace 64 = .ok (.iconst 0, 1) := by decide +kernel
theorem dX3_findSpace_65 : decode cX3_findSpace 65 = .ok (.iload_n 1, 1) := by decide +kernel
theorem dX3_findSpace_66 : decode cX3_findSpace 66 = .ok (.invokevirtual 102, 3) := by decide +kernel
theorem dX3_findSpace_69 : decode cX3_findSpace 69 = .ok (.aload_n 0, 1) := by decide +kernel
theorem dX3_findSpace_70 : decode cX3_findSpace 70 = .ok (.getfield 40, 3) := by decide +kernel
theorem dX3_findSpace_73 : decode cX3_findSpace 73 = .ok (.aload_n 0, 1) := by decide +kernel
theorem dX3_findSpace_74 : decode cX3_findSpace 74 = .ok (.getfield 33, 3) := by decide +kernel
theorem dX3_findSpace_77 : decode cX3_findSpace 77 = .ok (.aload_n 0, 1) := by decide +kernel
theorem dX3_findSpace_78 : decode cX3_findSpace 78 = .ok (.getfield 37, 3) := by decide +kernel
theorem dX3_findSpace_81 : decode cX3_findSpace 81 = .ok (.invokevirtual 106, 3) := by decide +kernel
theorem dX3_findSpace_84 : decode cX3_findSpace 84 = .ok (.aload_n 0, 1) := by decide +kernel
theorem dX3_findSpace_85 : decode cX3_findSpace 85 = .ok (.getfield 40, 3) := by decide +kernel
theorem dX3_findSpace_88 : decode cX3_findSpace 88 = .ok (.invokevirtual 109, 3) := by decide +kernel
theorem dX3_findSpace_91 : decode cX3_findSpace 91 = .ok (.ifCond .ne 8, 3) := by decide +kernel
theorem dX3_findSpace_94 : decode cX3_findSpace 94 = .ok (.aload_n 0, 1) := by decide +kernel
theorem dX3_findSpace_95 : decode cX3_findSpace 95 = .ok (.iconst 2, 1) := by decide +kernel
theorem dX3_findSpace_96 : decode cX3_findSpace 96 = .ok (.putfield 88, 3) := by decide +kernel
theorem dX3_findSpace_99 : decode cX3_findSpace 99 = .ok (.iinc 1 1, 3) := by decide +kernel
theorem dX3_findSpace_102 : decode cX3_findSpace 102 = .ok (.goto (-65), 3) := by decide +kernel
theorem dX3_findSpace_105 : decode cX3_findSpace 105 = .ok (.iconst 2, 1) := by decide +kernel
theorem dX3_findSpace_106 : decode cX3_findSpace 106 = .ok (.istore_n 1, 1) := by decide +kernel
theorem dX3_findSpace_107 : decode cX3_findSpace 107 = .ok (.iload_n 1, 1) := by decide +kernel
theorem dX3_findSpace_108 : decode cX3_findSpace 108 = .ok (.aload_n 0, 1) := by decide +kernel
theorem dX3_findSpace_109 : decode cX3_findSpace 109 = .ok (.getfield 14, 3) := by decide +kernel
theorem dX3_findSpace_112 : decode cX3_findSpace 112 = .ok (.getfield 46, 3) := by decide +kernel
theorem dX3_findSpace_115 : decode cX3_findSpace 115 = .ok (.if_icmp .ge 49, 3) := by decide +kernel
theorem dX3_findSpace_118 : decode cX3_findSpace 118 = .ok (.aload_n 0, 1) := by decide +kernel
theorem dX3_findSpace_119 : decode cX3_findSpace 119 = .ok (.getfield 88, 3) := by decide +kernel
theorem dX3_findSpace_122 : decode cX3_findSpace 122 = .ok (.iconst 2, 1) := by decide +kernel
theorem dX3_findSpace_123 : decode cX3_findSpace 123 = .ok (.if_icmp .ne 41, 3) := by decide +kernel
theorem dX3_findSpace_126 : decode cX3_findSpace 126 = .ok (.aload_n 0, 1) := by decide +kernel
theorem dX3_findSpace_127 : decode cX3_findSpace 127 = .ok (.getfield 37, 3) := by decide +kernel
theorem dX3_findSpace_130 : decode cX3_findSpace 130 = .ok (.aload_n 0, 1) := by decide +kernel
theorem dX3_findSpace_131 : decode cX3_findSpace 131 = .ok (.getfield 14, 3) := by decide +kernel
theorem dX3_findSpace_134 : decode cX3_findSpace 134 = .ok (.iconst 0, 1) := by decide +kernel
theorem dX3_findSpace_135 : decode cX3_findSpace 135 = .ok (.iload_n 1, 1) := by decide +kernel
theorem dX3_findSpace_136 : decode cX3_findSpace 136 = .ok (.invokevirtual 102, 3) := by decide +kernel
theorem dX3_findSpace_139 : decode cX3_findSpace 139 = .ok (.aload_n 0, 1) := by decide +kernel
theorem dX3_findSpace_140 : decode cX3_findSpace 140 = .ok (.getfield 40, 3) := by decide +kernel
theorem dX3_findSpace_143 : decode cX3_findSpace 143 = .ok (.aload_n 0, 1) := by decide +kernel
theorem dX3_findSpace_144 : decode cX3_findSpace 144 = .ok (.getfield 37, 3) := by decide +kernel
theorem dX3_findSpace_147 : decode cX3_findSpace 147 = .ok (.invokevirtual 113, 3) := by decide +kernel
theorem dX3_findSpace_150 : decode cX3_findSpace 150 = .ok (.ifCond .eq 8, 3) := by decide +kernel
theorem dX3_findSpace_153 : decode cX3_findSpace 153 = .ok (.aload_n 0, 1) := by decide +kernel
theorem dX3_findSpace_154 : decode cX3_findSpace 154 = .ok (.iconst 3, 1) := by decide +kernel
theorem dX3_findSpace_155 : decode cX3_findSpace 155 = .ok (.putfield 88, 3) := by decide +kernel
theorem dX3_findSpace_158 : decode cX3_findSpace 158 = .ok (.iinc 1 1, 3) := by decide +kernel
theorem dX3_findSpace_161 : decode cX3_findSpace 161 = .ok (.goto (-54), 3) := by decide +kernel
theorem dX3_findSpace_164 : decode cX3_findSpace 164 = .ok (.return_, 1) := by decide +kernel
set_option maxRecDepth 20000 in
theorem ggX3_bindSpace_X3_bind : GoodIn wsX3_bindSpace wsX3_bind := goodIn_r _ [11, 12, 13, 14, 15, 16, 17, 18, 19, 20, 21, 22, 23, 24, 25, 26, 27, 28, 29, 30, 31, 51, 52, 53, 54, 55, 56, 57, 58, 62, 63, 64, 65, 66, 67, 68, 69, 70] (by decide +kernel) (by decide +kernel)
set_option maxRecDepth 20000 in
theorem gX3_bindSpace_X3_bind : GoodIn wsX3_bindSpace (wsV RX3 117 RX3 yX3_bind wsX3_bind) := goodIn_app (goodIn_of _ (by decide +kernel)) ggX3_bindSpace_X3_bind
set_option maxRecDepth 20000 in
theorem ggX3_bindSpace_X6_shorten : GoodIn wsX3_bindSpace wsX6_shorten := goodIn_r _ [36, 37, 38, 39, 40, 41, 42, 43, 44, 45, 35, 46, 59, 60, 61] (by decide +kernel) (by decide +kernel)
set_option maxRecDepth 20000 in
theorem gX3_bindSpace_X6_shorten : GoodIn wsX3_bindSpace (wsV RX3 120 RX6 yX6_shorten wsX6_shorten) := goodIn_app (goodIn_of _ (by decide +kernel)) ggX3_bindSpace_X6_shorten
set_option maxRecDepth 20000 in
theorem ggX3_bindSpace_X6_flip : GoodIn wsX3_bindSpace wsX6_flip := goodIn_r _ [50, 37, 42, 43, 59, 60, 61] (by decide +kernel) (by decide +kernel)
set_option maxRecDepth 20000 in
theorem gX3_bindSpace_X6_flip : GoodIn wsX3_bindSpace (wsV RX3 129 RX6 yX6_flip wsX6_flip) := goodIn_app (goodIn_of _ (by decide +kernel)) ggX3_bindSpace_X6_flip
theorem dX3_bindSpace_0 : decode cX3_bindSpace 0 = .ok (.aload_n 0, 1) := by decide +kernel
theorem dX3_bindSpace_1 : decode cX3_bindSpace 1 = .ok (.getfield 88, 3) := by decide +kernel
theorem dX3_bindSpace_4 : decode cX3_bindSpace 4 = .ok (.ifCond .ne 27, 3) := by decide +kernel
theorem dX3_bindSpace_7 : decode cX3_bindSpace 7 = .ok (.aload_n 0, 1) := by decide +kernel
theorem dX3_bindSpace_8 : decode cX3_bindSpace 8 = .ok (.iconst 1, 1) := by decide +kernel
theorem dX3_bindSpace_9 : decode cX3_bindSpace 9 = .ok (.iconst 0, 1) := by decide +kernel
theorem dX3_bindSpace_10 : decode cX3_bindSpace 10 = .ok (.iconst 0, 1) := by decide +kernel
theorem dX3_bindSpace_11 : decode cX3_bindSpace 11 = .ok (.invokevirtual 117, 3) := by decide +kernel
theorem dX3_bindSpace_14 : decode cX3_bindSpace 14 = .ok (.aload_n 0, 1) := by decide +kernel
theorem dX3_bindSpace_15 : decode cX3_bindSpace 15 = .ok (.iconst 0, 1) := by decide +kernel
theorem dX3_bindSpace_16 : decode cX3_bindSpace 16 = .ok (.iconst 1, 1) := by decide +kernel
theorem dX3_bindSpace_17 : decode cX3_bindSpace 17 = .ok (.iconst 0, 1) := by decide +kernel
theorem dX3_bindSpace_18 : decode cX3_bindSpace 18 = .ok (.invokevirtual 117, 3) := by decide +kernel
theorem dX3_bindSpace_21 : decode cX3_bindSpace 21 = .ok (.aload_n 0, 1) := by decide +kernel
theorem dX3_bindSpace_22 : decode cX3_bindSpace 22 = .ok (.iconst 0, 1) := by decide +kernel
theorem dX3_bindSpace_23 : decode cX3_bindSpace 23 = .ok (.iconst 0, 1) := by decide +kernel
theorem dX3_bindSpace_24 : decode cX3_bindSpace 24 = .ok (.iconst 1, 1) := by decide +kernel
theorem dX3_bindSpace_25 : decode cX3_bindSpace 25 = .ok (.invokevirtual 117, 3) := by decide +kernel
theorem dX3_bindSpace_28 : decode cX3_bindSpace 28 = .ok (.goto 188, 3) := by decide +kernel
theorem dX3_bindSpace_31 : decode cX3_bindSpace 31 = .ok (.aload_n 0, 1) := by decide +kernel
theorem dX3_bindSpace_32 : decode cX3_bindSpace 32 = .ok (.getfield 88, 3) := by decide +kernel
theorem dX3_bindSpace_35 : decode cX3_bindSpace 35 = .ok (.iconst 1, 1) := by decide +kernel
theorem dX3_bindSpace_36 : decode cX3_bindSpace 36 = .ok (.if_icmp .ne 73, 3) := by decide +kernel
theorem dX3_bindSpace_39 : decode cX3_bindSpace 39 = .ok (.aload_n 0, 1) := by decide +kernel
theorem dX3_bindSpace_40 : decode cX3_bindSpace 40 = .ok (.getfield 33, 3) := by decide +kernel
theorem dX3_bindSpace_43 : decode cX3_bindSpace 43 = .ok (.invokevirtual 120, 3) := by decide +kernel
theorem dX3_bindSpace_46 : decode cX3_bindSpace 46 = .ok (.aload_n 0, 1) := by decide +kernel
theorem dX3_bindSpace_47 : decode cX3_bindSpace 47 = .ok (.iconst 0, 1) := by decide +kernel
theorem dX3_bindSpace_48 : decode cX3_bindSpace 48 = .ok (.aload_n 0, 1) := by decide +kernel
theorem dX3_bindSpace_49 : decode cX3_bindSpace 49 = .ok (.getfield 33, 3) := by decide +kernel
theorem dX3_bindSpace_52 : decode cX3_bindSpace 52 = .ok (.getfield 123, 3) := by decide +kernel
theorem dX3_bindSpace_55 : decode cX3_bindSpace 55 = .ok (.aload_n 0, 1) := by decide +kernel
theorem dX3_bindSpace_56 : decode cX3_bindSpace 56 = .ok (.getfield 33, 3) := by decide +kernel
theorem dX3_bindSpace_59 : decode cX3_bindSpace 59 = .ok (.getfield 125, 3) := by decide +kernel
theorem dX3_bindSpace_62 : decode cX3_bindSpace 62 = .ok (.ineg, 1) := by decide +kernel
theorem dX3_bindSpace_63 : decode cX3_bindSpace 63 = .ok (.invokevirtual 117, 3) := by decide +kernel
theorem dX3_bindSpace_66 : decode cX3_bindSpace 66 = .ok (.aload_n 0, 1) := by decide +kernel
theorem dX3_bindSpace_67 : decode cX3_bindSpace 67 = .ok (.aload_n 0, 1) := by decide +kernel
theorem dX3_bindSpace_68 : decode cX3_bindSpace 68 = .ok (.getfield 33, 3) := by decide +kernel
theorem dX3_bindSpace_71 : decode cX3_bindSpace 71 = .ok (.getfield 123, 3) := by decide +kernel
theorem dX3_bindSpace_74 : decode cX3_bindSpace 74 = .ok (.ineg, 1) := by decide +kernel
theorem dX3_bindSpace_75 : decode cX3_bindSpace 75 = .ok (.iconst 0, 1) := by decide +kernel
theorem dX3_bindSpace_76 : decode cX3_bindSpace 76 = .ok (.aload_n 0, 1) := by decide +kernel
theorem dX3_bindSpace_77 : decode cX3_bindSpace 77 = .ok (.getfield 33, 3) := by decide +kernel
theorem dX3_bindSpace_80 : decode cX3_bindSpace 80 = .ok (.getfield 127, 3) := by decide +kernel
theorem dX3_bindSpace_83 : decode cX3_bindSpace 83 = .ok (.invokevirtual 117, 3) := by decide +kernel
theorem dX3_bindSpace_86 : decode cX3_bindSpace 86 = .ok (.aload_n 0, 1) := by decide +kernel
theorem dX3_bindSpace_87 : decode cX3_bindSpace 87 = .ok (.aload_n 0, 1) := by decide +kernel
theorem dX3_bindSpace_88 : decode cX3_bindSpace 88 = .ok (.getfield 33, 3) := by decide +kernel
theorem dX3_bindSpace_91 : decode cX3_bindSpace 91 = .ok (.getfield 125, 3) := by decide +kernel
theorem dX3_bindSpace_94 : decode cX3_bindSpace 94 = .ok (.aload_n 0, 1) := by decide +kernel
theorem dX3_bindSpace_95 : decode cX3_bindSpace 95 = .ok (.getfield 33, 3) := by decide +kernel
theorem dX3_bindSpace_98 : decode cX3_bindSpace 98 = .ok (.getfield 127, 3) := by decide +kernel
theorem dX3_bindSpace_101 : decode cX3_bindSpace 101 = .ok (.ineg, 1) := by decide +kernel
theorem dX3_bindSpace_102 : decode cX3_bindSpace 102 = .ok (.iconst 0, 1) := by decide +kernel
theorem dX3_bindSpace_103 : decode cX3_bindSpace 103 = .ok (.invokevirtual 117, 3) := by decide +kernel
theorem dX3_bindSpace_106 : decode cX3_bindSpace 106 = .ok (.goto 110, 3) := by decide +kernel
theorem dX3_bindSpace_109 : decode cX3_bindSpace 109 = .ok (.aload_n 0, 1) := by decide +kernel
theorem dX3_bindSpace_110 : decode cX3_bindSpace 110 = .ok (.getfield 88, 3) := by decide +kernel
theorem dX3_bindSpace_113 : decode cX3_bindSpace 113 = .ok (.iconst 2, 1) := by decide +kernel
theorem dX3_bindSpace_114 : decode cX3_bindSpace 114 = .ok (.if_icmp .ne 102, 3) := by decide +kernel
theorem dX3_bindSpace_117 : decode cX3_bindSpace 117 = .ok (.aload_n 0, 1) := by decide +kernel
theorem dX3_bindSpace_118 : decode cX3_bindSpace 118 = .ok (.getfield 40, 3) := by decide +kernel
theorem dX3_bindSpace_121 : decode cX3_bindSpace 121 = .ok (.invokevirtual 120, 3) := by decide +kernel
theorem dX3_bindSpace_124 : decode cX3_bindSpace 124 = .ok (.aload_n 0, 1) := by decide +kernel
theorem dX3_bindSpace_125 : decode cX3_bindSpace 125 = .ok (.getfield 40, 3) := by decide +kernel
theorem dX3_bindSpace_128 : decode cX3_bindSpace 128 = .ok (.getfield 127, 3) := by decide +kernel
theorem dX3_bindSpace_131 : decode cX3_bindSpace 131 = .ok (.ifCond .lt 43, 3) := by decide +kernel
theorem dX3_bindSpace_134 : decode cX3_bindSpace 134 = .ok (.aload_n 0, 1) := by decide +kernel
theorem dX3_bindSpace_135 : decode cX3_bindSpace 135 = .ok (.getfield 40, 3) := by decide +kernel
theorem dX3_bindSpace_138 : decode cX3_bindSpace 138 = .ok (.getfield 127, 3) := by decide +kernel
theorem dX3_bindSpace_141 : decode cX3_bindSpace 141 = .ok (.ifCond .ne 37, 3) := by decide +kernel
theorem dX3_bindSpace_144 : decode cX3_bindSpace 144 = .ok (.aload_n 0, 1) := by decide +kernel
theorem dX3_bindSpace_145 : decode cX3_bindSpace 145 = .ok (.getfield 40, 3) := by decide +kernel
theorem dX3_bindSpace_148 : decode cX3_bindSpace 148 = .ok (.getfield 125, 3) := by decide +kernel
theorem dX3_bindSpace_151 : decode cX3_bindSpace 151 = .ok (.ifCond .lt 23, 3) := by decide +kernel
theorem dX3_bindSpace_154 : decode cX3_bindSpace 154 = .ok (.aload_n 0, 1) := by decide +kernel
theorem dX3_bindSpace_155 : decode cX3_bindSpace 155 = .ok (.getfield 40, 3) := by decide +kernel
theorem dX3_bindSpace_158 : decode cX3_bindSpace 158 = .ok (.getfield 125, 3) := by decide +kernel
theorem dX3_bindSpace_161 : decode cX3_bindSpace 161 = .ok (.ifCond .ne 17, 3) := by decide +kernel
theorem dX3_bindSpace_164 : decode cX3_bindSpace 164 = .ok (.aload_n 0, 1) := by decide +kernel
theorem dX3_bindSpace_165 : decode cX3_bindSpace 165 = .ok (.getfield 40, 3) := by decide +kernel
theorem dX3_bindSpace_168 : decode cX3_bindSpace 168 = .ok (.getfield 123, 3) := by decide +kernel
theorem dX3_bindSpace_171 : decode cX3_bindSpace 171 = .ok (.ifCond .ge 7, 3) := by decide +kernel
theorem dX3_bindSpace_174 : decode cX3_bindSpace 174 = .ok (.iconst 1, 1) := by decide +kernel
theorem dX3_bindSpace_175 : decode cX3_bindSpace 175 = .ok (.goto 4, 3) := by decide +kernel
theorem dX3_bindSpace_178 : decode cX3_bindSpace 178 = .ok (.iconst 0, 1) := by decide +kernel
theorem dX3_bindSpace_179 : decode cX3_bindSpace 179 = .ok (.istore_n 1, 1) := by decide +kernel
theorem dX3_bindSpace_180 : decode cX3_bindSpace 180 = .ok (.iload_n 1, 1) := by decide +kernel
theorem dX3_bindSpace_181 : decode cX3_bindSpace 181 = .ok (.ifCond .eq 10, 3) := by decide +kernel
theorem dX3_bindSpace_184 : decode cX3_bindSpace 184 = .ok (.aload_n 0, 1) := by decide +kernel
theorem dX3_bindSpace_185 : decode cX3_bindSpace 185 = .ok (.getfield 40, 3) := by decide +kernel
theorem dX3_bindSpace_188 : decode cX3_bindSpace 188 = .ok (.invokevirtual 129, 3) := by decide +kernel
theorem dX3_bindSpace_191 : decode cX3_bindSpace 191 = .ok (.aload_n 0, 1) := by decide +kernel
theorem dX3_bindSpace_192 : decode cX3_bindSpace 192 = .ok (.aload_n 0, 1) := by decide +kernel
theorem dX3_bindSpace_193 : decode cX3_bindSpace 193 = .ok (.getfield 40, 3) := by decide +kernel
theorem dX3_bindSpace_196 : decode cX3_bindSpace 196 = .ok (.getfield 127, 3) := by decide +kernel
theorem dX3_bindSpace_199 : decode cX3_bindSpace 199 = .ok (.aload_n 0, 1) := by decide +kernel
theorem dX3_bindSpace_200 : decode cX3_bindSpace 200 = .ok (.getfield 40, 3) := by decide +kernel
theorem dX3_bindSpace_203 : decode cX3_bindSpace 203 = .ok (.getfield 125, 3) := by decide +kernel
theorem dX3_bindSpace_206 : decode cX3_bindSpace 206 = .ok (.aload_n 0, 1) := by decide +kernel
theorem dX3_bindSpace_207 : decode cX3_bindSpace 207 = .ok (.getfield 40, 3) := by decide +kernel
theorem dX3_bindSpace_210 : decode cX3_bindSpace 210 = .ok (.getfield 123, 3) := by decide +kernel
theorem dX3_bindSpace_213 : decode cX3_bindSpace 213 = .ok (.invokevirtual 117, 3) := by decide +kernel
theorem dX3_bindSpace_216 : decode cX3_bindSpace 216 = .ok (.return_, 1) := by decide +kernel
set_option maxRecDepth 20000 in
theorem ggX3_bind_X1_put : GoodIn wsX3_bind wsX1_put := goodIn_r _ [11, 12, 13, 14, 15, 10, 16, 17, 18, 19, 20, 33, 34, 35, 36, 37] (by decide +kernel) (by decide +kernel)
set_option maxRecDepth 20000 in
theorem gX3_bind_X1_put : GoodIn wsX3_bind (wsV RX3 132 RX1 yX1_put wsX1_put) := goodIn_app (goodIn_of _ (by decide +kernel)) ggX3_bind_X1_put
theorem dX3_bind_0 : decode cX3_bind 0 = .ok (.aload_n 0, 1) := by decide +kernel
theorem dX3_bind_1 : decode cX3_bind 1 = .ok (.getfield 14, 3) := by decide +kernel
theorem dX3_bind_4 : decode cX3_bind 4 = .ok (.getfield 46, 3) := by decide +kernel
theorem dX3_bind_7 : decode cX3_bind 7 = .ok (.ifCond .le 48, 3) := by decide +kernel
theorem dX3_bind_10 : decode cX3_bind 10 = .ok (.aload_n 0, 1) := by decide +kernel
theorem dX3_bind_11 : decode cX3_bind 11 = .ok (.getfield 27, 3) := by decide +kernel
theorem dX3_bind_14 : decode cX3_bind 14 = .ok (.iload_n 1, 1) := by decide +kernel
theorem dX3_bind_15 : decode cX3_bind 15 = .ok (.iload_n 2, 1) := by decide +kernel
theorem dX3_bind_16 : decode cX3_bind 16 = .ok (.iload_n 3, 1) := by decide +kernel
theorem dX3_bind_17 : decode cX3_bind 17 = .ok (.iload_n 1, 1) := by decide +kernel
theorem dX3_bind_18 : decode cX3_bind 18 = .ok (.aload_n 0, 1) := by decide +kernel
theorem dX3_bind_19 : decode cX3_bind 19 = .ok (.getfield 14, 3) := by decide +kernel
theorem dX3_bind_22 : decode cX3_bind 22 = .ok (.getfield 50, 3) := by decide +kernel
theorem dX3_bind_25 : decode cX3_bind 25 = .ok (.iconst 0, 1) := by decide +kernel
theorem dX3_bind_26 : decode cX3_bind 26 = .ok (.iaload, 1) := by decide +kernel
theorem dX3_bind_27 : decode cX3_bind 27 = .ok (.imul, 1) := by decide +kernel
theorem dX3_bind_28 : decode cX3_bind 28 = .ok (.iload_n 2, 1) := by decide +kernel
theorem dX3_bind_29 : decode cX3_bind 29 = .ok (.aload_n 0, 1) := by decide +kernel
theorem dX3_bind_30 : decode cX3_bind 30 = .ok (.getfield 14, 3) := by decide +kernel
theorem dX3_bind_33 : decode cX3_bind 33 = .ok (.getfield 54, 3) := by decide +kernel
theorem dX3_bind_36 : decode cX3_bind 36 = .ok (.iconst 0, 1) := by decide +kernel
theorem dX3_bind_37 : decode cX3_bind 37 = .ok (.iaload, 1) := by decide +kernel
theorem dX3_bind_38 : decode cX3_bind 38 = .ok (.imul, 1) := by decide +kernel
theorem dX3_bind_39 : decode cX3_bind 39 = .ok (.iadd, 1) := by decide +kernel
theorem dX3_bind_40 : decode cX3_bind 40 = .ok (.iload_n 3, 1) := by decide +kernel
theorem dX3_bind_41 : decode cX3_bind 41 = .ok (.aload_n 0, 1) := by decide +kernel
theorem dX3_bind_42 : decode cX3_bind 42 = .ok (.getfield 14, 3) := by decide +kernel
theorem dX3_bind_45 : decode cX3_bind 45 = .ok (.getfield 57, 3) := by decide +kernel
theorem dX3_bind_48 : decode cX3_bind 48 = .ok (.iconst 0, 1) := by decide +kernel
theorem dX3_bind_49 : decode cX3_bind 49 = .ok (.iaload, 1) := by decide +kernel
theorem dX3_bind_50 : decode cX3_bind 50 = .ok (.imul, 1) := by decide +kernel
theorem dX3_bind_51 : decode cX3_bind 51 = .ok (.iadd, 1) := by decide +kernel
theorem dX3_bind_52 : decode cX3_bind 52 = .ok (.invokevirtual 132, 3) := by decide +kernel
theorem dX3_bind_55 : decode cX3_bind 55 = .ok (.return_, 1) := by decide +kernel
set_option maxRecDepth 20000 in
theorem ggX3_findEnds_X6_lead : GoodIn wsX3_findEnds wsX6_lead := goodIn_r _ [9, 10, 11, 12, 13, 14, 15, 74, 75, 76, 77, 78, 79, 80] (by decide +kernel) (by decide +kernel)
set_option maxRecDepth 20000 in
theorem gX3_findEnds_X6_lead : GoodIn wsX3_findEnds (wsV RX3 102 RX6 yX6_lead wsX6_lead) := goodIn_app (goodIn_of _ (by decide +kernel)) ggX3_findEnds_X6_lead
set_option maxRecDepth 20000 in
theorem ggX3_findEnds_X3_trySide : GoodIn wsX3_findEnds wsX3_trySide := goodIn_r _ [20, 4, 2, 3, 21, 22, 23, 24, 8, 25, 11, 13, 15, 26, 27, 28, 29, 10, 12, 14, 30, 31, 32, 33, 34, 35, 36, 37, 38, 39, 40, 41, 42, 43, 44, 45, 46, 47, 48, 49, 50, 51, 52, 53, 54, 55, 56, 57, 58, 59, 60, 61, 62, 63, 64, 65, 66, 67, 68, 69, 70, 71, 72, 73, 74, 75, 76, 77, 78, 79, 80, 81, 82, 83, 84, 85] (by decide +kernel) (by decide +kernel)
set_option maxRecDepth 20000 in
theorem gX3_findEnds_X3_trySide : GoodIn wsX3_findEnds (wsV RX3 135 RX3 yX3_trySide wsX3_trySide) := goodIn_app (goodIn_of _ (by decide +kernel)) ggX3_findEnds_X3_trySide
theorem dX3_findEnds_0 : decode cX3_findEnds 0 = .ok (.aload_n 0, 1) := by decide +kernel
theorem dX3_findEnds_1 : decode cX3_findEnds 1 = .ok (.getfield 88, 3) := by decide +kernel
theorem dX3_findEnds_4 : decode cX3_findEnds 4 = .ok (.iconst 1, 1) := by decide +kernel
theorem dX3_findEnds_5 : decode cX3_findEnds 5 = .ok (.if_icmp .eq 4, 3) := by decide +kernel
theorem dX3_findEnds_8 : decode cX3_findEnds 8 = .ok (.return_, 1) := by decide +kernel
theorem dX3_findEnds_9 : decode cX3_findEnds 9 = .ok (.iconst 0, 1) := by decide +kernel
theorem dX3_findEnds_10 : decode cX3_findEnds 10 = .ok (.istore_n 1, 1) := by decide +kernel
theorem dX3_findEnds_11 : decode cX3_findEnds 11 = .ok (.iload_n 1, 1) := by decide +kernel
theorem dX3_findEnds_12 : decode cX3_findEnds 12 = .ok (.aload_n 0, 1) := by decide +kernel
theorem dX3_findEnds_13 : decode cX3_findEnds 13 = .ok (.getfield 14, 3) := by decide +kernel
theorem dX3_findEnds_16 : decode cX3_findEnds 16 = .ok (.getfield 46, 3) := by decide +kernel
theorem dX3_findEnds_19 : decode cX3_findEnds 19 = .ok (.if_icmp .ge 35, 3) := by decide +kernel
theorem dX3_findEnds_22 : decode cX3_findEnds 22 = .ok (.aload_n 0, 1) := by decide +kernel
theorem dX3_findEnds_23 : decode cX3_findEnds 23 = .ok (.getfield 43, 3) := by decide +kernel
theorem dX3_findEnds_26 : decode cX3_findEnds 26 = .ok (.aload_n 0, 1) := by decide +kernel
theorem dX3_findEnds_27 : decode cX3_findEnds 27 = .ok (.getfield 14, 3) := by decide +kernel
theorem dX3_findEnds_30 : decode cX3_findEnds 30 = .ok (.iconst 0, 1) := by decide +kernel
theorem dX3_findEnds_31 : decode cX3_findEnds 31 = .ok (.aload_n 0, 1) := by decide +kernel
theorem dX3_findEnds_32 : decode cX3_findEnds 32 = .ok (.getfield 14, 3) := by decide +kernel
theorem dX3_findEnds_35 : decode cX3_findEnds 35 = .ok (.getfield 46, 3) := by decide +kernel
theorem dX3_findEnds_38 : decode cX3_findEnds 38 = .ok (.iconst 1, 1) := by decide +kernel
theorem dX3_findEnds_39 : decode cX3_findEnds 39 = .ok (.isub, 1) := by decide +kernel
theorem dX3_findEnds_40 : decode cX3_findEnds 40 = .ok (.invokevirtual 102, 3) := by decide +kernel
theorem dX3_findEnds_43 : decode cX3_findEnds 43 = .ok (.aload_n 0, 1) := by decide +kernel
theorem dX3_findEnds_44 : decode cX3_findEnds 44 = .ok (.iload_n 1, 1) := by decide +kernel
theorem dX3_findEnds_45 : decode cX3_findEnds 45 = .ok (.invokevirtual 135, 3) := by decide +kernel
theorem dX3_findEnds_48 : decode cX3_findEnds 48 = .ok (.iinc 1 1, 3) := by decide +kernel
theorem dX3_findEnds_51 : decode cX3_findEnds 51 = .ok (.goto (-40), 3) := by decide +kernel
theorem dX3_findEnds_54 : decode cX3_findEnds 54 = .ok (.return_, 1) := by decide +kernel
set_option maxRecDepth 20000 in
theorem ggX3_findEdges_X6_lead : GoodIn wsX3_findEdges wsX6_lead := goodIn_r _ [11, 12, 13, 14, 15, 16, 17, 80, 81, 82, 83, 84, 85, 86] (by decide +kernel) (by decide +kernel)
set_option maxRecDepth 20000 in
theorem gX3_findEdges_X6_lead : GoodIn wsX3_findEdges (wsV RX3 102 RX6 yX6_lead wsX6_lead) := goodIn_app (goodIn_of _ (by decide +kernel)) ggX3_findEdges_X6_lead
set_option maxRecDepth 20000 in
theorem ggX3_findEdges_X6_square : GoodIn wsX3_findEdges wsX6_square := goodIn_r _ [21, 15, 17, 13, 84, 85, 86] (by decide +kernel) (by decide +kernel)
set_option maxRecDepth 20000 in
theorem gX3_findEdges_X6_square : GoodIn wsX3_findEdges (wsV RX3 106 RX6 yX6_square wsX6_square) := goodIn_app (goodIn_of _ (by decide +kernel)) ggX3_findEdges_X6_square
set_option maxRecDepth 20000 in
theorem ggX3_findEdges_X3_trySide : GoodIn wsX3_findEdges wsX3_trySide := goodIn_r _ [26, 5, 2, 3, 27, 28, 29, 30, 10, 31, 13, 15, 17, 32, 33, 34, 35, 12, 14, 16, 36, 37, 38, 39, 40, 41, 42, 43, 44, 45, 46, 47, 48, 49, 50, 51, 52, 53, 54, 55, 56, 57, 58, 59, 60, 61, 62, 63, 64, 65, 66, 67, 68, 69, 70, 71, 72, 73, 74, 75, 76, 77, 78, 79, 80, 81, 82, 83, 84, 85, 86, 87, 88, 89, 90, 91] (by decide +kernel) (by decide +kernel)
set_option maxRecDepth 20000 in
theorem gX3_findEdges_X3_trySide : GoodIn wsX3_findEdges (wsV RX3 135 RX3 yX3_trySide wsX3_trySide) := goodIn_app (goodIn_of _ (by decide +kernel)) ggX3_findEdges_X3_trySide
theorem dX3_findEdges_0 : decode cX3_findEdges 0 = .ok (.aload_n 0, 1) := by decide +kernel
theorem dX3_findEdges_1 : decode cX3_findEdges 1 = .ok (.getfield 88, 3) := by decide +kernel
theorem dX3_findEdges_4 : decode cX3_findEdges 4 = .ok (.iconst 2, 1) := by decide +kernel
theorem dX3_findEdges_5 : decode cX3_findEdges 5 = .ok (.if_icmp .eq 4, 3) := by decide +kernel
theorem dX3_findEdges_8 : decode cX3_findEdges 8 = .ok (.return_, 1) := by decide +kernel
theorem dX3_findEdges_9 : decode cX3_findEdges 9 = .ok (.iconst 0, 1) := by decide +kernel
theorem dX3_findEdges_10 : decode cX3_findEdges 10 = .ok (.istore_n 1, 1) := by decide +kernel
theorem dX3_findEdges_11 : decode cX3_findEdges 11 = .ok (.iload_n 1, 1) := by decide +kernel
theorem dX3_findEdges_12 : decode cX3_findEdges 12 = .ok (.aload_n 0, 1) := by decide +kernel
theorem dX3_findEdges_13 : decode cX3_findEdges 13 = .ok (.getfield 14, 3) := by decide +kernel
theorem dX3_findEdges_16 : decode cX3_findEdges 16 = .ok (.getfield 46, 3) := by decide +kernel
theorem dX3_findEdges_19 : decode cX3_findEdges 19 = .ok (.if_icmp .ge 63, 3) := by decide +kernel
theorem dX3_findEdges_22 : decode cX3_findEdges 22 = .ok (.iload_n 1, 1) := by decide +kernel
theorem dX3_findEdges_23 : decode cX3_findEdges 23 = .ok (.iconst 1, 1) := by decide +kernel
theorem dX3_findEdges_24 : decode cX3_findEdges 24 = .ok (.iadd, 1) := by decide +kernel
theorem dX3_findEdges_25 : decode cX3_findEdges 25 = .ok (.istore_n 2, 1) := by decide +kernel
theorem dX3_findEdges_26 : decode cX3_findEdges 26 = .ok (.iload_n 2, 1) := by decide +kernel
theorem dX3_findEdges_27 : decode cX3_findEdges 27 = .ok (.aload_n 0, 1) := by decide +kernel
theorem dX3_findEdges_28 : decode cX3_findEdges 28 = .ok (.getfield 14, 3) := by decide +kernel
theorem dX3_findEdges_31 : decode cX3_findEdges 31 = .ok (.getfield 46, 3) := by decide +kernel
theorem dX3_findEdges_34 : decode cX3_findEdges 34 = .ok (.if_icmp .ge 42, 3) := by decide +kernel
theorem dX3_findEdges_37 : decode cX3_findEdges 37 = .ok (.aload_n 0, 1) := by decide +kernel
theorem dX3_findEdges_38 : decode cX3_findEdges 38 = .ok (.getfield 33, 3) := by decide +kernel
theorem dX3_findEdges_41 : decode cX3_findEdges 41 = .ok (.aload_n 0, 1) := by decide +kernel
theorem dX3_findEdges_42 : decode cX3_findEdges 42 = .ok (.getfield 14, 3) := by decide +kernel
theorem dX3_findEdges_45 : decode cX3_findEdges 45 = .ok (.iload_n 1, 1) := by decide +kernel
theorem dX3_findEdges_46 : decode cX3_findEdges 46 = .ok (.iload_n 2, 1) := by decide +kernel
theorem dX3_findEdges_47 : decode cX3_findEdges 47 = .ok (.invokevirtual 102, 3) := by decide +kernel
theorem dX3_findEdges_50 : decode cX3_findEdges 50 = .ok (.aload_n 0, 1) := by decide +kernel
theorem dX3_findEdges_51 : decode cX3_findEdges 51 = .ok (.getfield 43, 3) := by decide +kernel
theorem dX3_findEdges_54 : decode cX3_findEdges 54 = .ok (.aload_n 0, 1) := by decide +kernel
theorem dX3_findEdges_55 : decode cX3_findEdges 55 = .ok (.getfield 33, 3) := by decide +kernel
theorem dX3_findEdges_58 : decode cX3_findEdges 58 = .ok (.aload_n 0, 1) := by decide +kernel
theorem dX3_findEdges_59 : decode cX3_findEdges 59 = .ok (.getfield 40, 3) := by decide +kernel
theorem dX3_findEdges_62 : decode cX3_findEdges 62 = .ok (.invokevirtual 106, 3) := by decide +kernel
theorem dX3_findEdges_65 : decode cX3_findEdges 65 = .ok (.aload_n 0, 1) := by decide +kernel
theorem dX3_findEdges_66 : decode cX3_findEdges 66 = .ok (.iload_n 1, 1) := by decide +kernel
theorem dX3_findEdges_67 : decode cX3_findEdges 67 = .ok (.invokevirtual 135, 3) := by decide +kernel
theorem dX3_findEdges_70 : decode cX3_findEdges 70 = .ok (.iinc 2 1, 3) := by decide +kernel
theorem dX3_findEdges_73 : decode cX3_findEdges 73 = .ok (.goto (-47), 3) := by decide +kernel
theorem dX3_findEdges_76 : decode cX3_findEdges 76 = .ok (.iinc 1 1, 3) := by decide +kernel
theorem dX3_findEdges_79 : decode cX3_findEdges 79 = .ok (.goto (-68), 3) := by decide +kernel
theorem dX3_findEdges_82 : decode cX3_findEdges 82 = .ok (.return_, 1) := by decide +kernel
set_option maxRecDepth 20000 in
theorem ggX3_findFaces_X6_lead : GoodIn wsX3_findFaces wsX6_lead := goodIn_r _ [11, 12, 13, 14, 15, 16, 17, 80, 81, 82, 83, 84, 85, 86] (by decide +kernel) (by decide +kernel)
set_option maxRecDepth 20000 in
theorem gX3_findFaces_X6_lead : GoodIn wsX3_findFaces (wsV RX3 102 RX6 yX6_lead wsX6_lead) := goodIn_app (goodIn_of _ (by decide +kernel)) ggX3_findFaces_X6_lead
set_option maxRecDepth 20000 in
theorem ggX3_findFaces_X6_square : GoodIn wsX3_findFaces wsX6_square := goodIn_r _ [21, 15, 17, 13, 84, 85, 86] (by decide +kernel) (by decide +kernel)
set_option maxRecDepth 20000 in
theorem gX3_findFaces_X6_square : GoodIn wsX3_findFaces (wsV RX3 106 RX6 yX6_square wsX6_square) := goodIn_app (goodIn_of _ (by decide +kernel)) ggX3_findFaces_X6_square
set_option maxRecDepth 20000 in
theorem ggX3_findFaces_X3_trySide : GoodIn wsX3_findFaces wsX3_trySide := goodIn_r _ [26, 6, 2, 3, 27, 28, 29, 30, 10, 31, 13, 15, 17, 32, 33, 34, 35, 12, 14, 16, 36, 37, 38, 39, 40, 41, 42, 43, 44, 45, 46, 47, 48, 49, 50, 51, 52, 53, 54, 55, 56, 57, 58, 59, 60, 61, 62, 63, 64, 65, 66, 67, 68, 69, 70, 71, 72, 73, 74, 75, 76, 77, 78, 79, 80, 81, 82, 83, 84, 85, 86, 87, 88, 89, 90, 91] (by decide +kernel) (by decide +kernel)
set_option maxRecDepth 20000 in
theorem gX3_findFaces_X3_trySide : GoodIn wsX3_findFaces (wsV RX3 135 RX3 yX3_trySide wsX3_trySide) := goodIn_app (goodIn_of _ (by decide +kernel)) ggX3_findFaces_X3_trySide
theorem dX3_findFaces_0 : decode cX3_findFaces 0 = .ok (.aload_n 0, 1) := by decide +kernel
theorem dX3_findFaces_1 : decode cX3_findFaces 1 = .ok (.getfield 88, 3) := by decide +kernel
theorem dX3_findFaces_4 : decode cX3_findFaces 4 = .ok (.iconst 3, 1) := by decide +kernel
theorem dX3_findFaces_5 : decode cX3_findFaces 5 = .ok (.if_icmp .eq 4, 3) := by decide +kernel
theorem dX3_findFaces_8 : decode cX3_findFaces 8 = .ok (.return_, 1) := by decide +kernel
theorem dX3_findFaces_9 : decode cX3_findFaces 9 = .ok (.iconst 0, 1) := by decide +kernel
theorem dX3_findFaces_10 : decode cX3_findFaces 10 = .ok (.istore_n 1, 1) := by decide +kernel
theorem dX3_findFaces_11 : decode cX3_findFaces 11 = .ok (.iload_n 1, 1) := by decide +kernel
theorem dX3_findFaces_12 : decode cX3_findFaces 12 = .ok (.aload_n 0, 1) := by decide +kernel
theorem dX3_findFaces_13 : decode cX3_findFaces 13 = .ok (.getfield 14, 3) := by decide +kernel
theorem dX3_findFaces_16 : decode cX3_findFaces 16 = .ok (.getfield 46, 3) := by decide +kernel
theorem dX3_findFaces_19 : decode cX3_findFaces 19 = .ok (.if_icmp .ge 97, 3) := by decide +kernel
theorem dX3_findFaces_22 : decode cX3_findFaces 22 = .ok (.iload_n 1, 1) := by decide +kernel
theorem dX3_findFaces_23 : decode cX3_findFaces 23 = .ok (.iconst 1, 1) := by decide +kernel
theorem dX3_findFaces_24 : decode cX3_findFaces 24 = .ok (.iadd, 1) := by decide +kernel
theorem dX3_findFaces_25 : decode cX3_findFaces 25 = .ok (.istore_n 2, 1) := by decide +kernel
theorem dX3_findFaces_26 : decode cX3_findFaces 26 = .ok (.iload_n 2, 1) := by decide +kernel
theorem dX3_findFaces_27 : decode cX3_findFaces 27 = .ok (.aload_n 0, 1) := by decide +kernel
theorem dX3_findFaces_28 : decode cX3_findFaces 28 = .ok (.getfield 14, 3) := by decide +kernel
theorem dX3_findFaces_31 : decode cX3_findFaces 31 = .ok (.getfield 46, 3) := by decide +kernel
theorem dX3_findFaces_34 : decode cX3_findFaces 34 = .ok (.if_icmp .ge 76, 3) := by decide +kernel
theorem dX3_findFaces_37 : decode cX3_findFaces 37 = .ok (.aload_n 0, 1) := by decide +kernel
theorem dX3_findFaces_38 : decode cX3_findFaces 38 = .ok (.getfield 33, 3) := by decide +kernel
theorem dX3_findFaces_41 : decode cX3_findFaces 41 = .ok (.aload_n 0, 1) := by decide +kernel
theorem dX3_findFaces_42 : decode cX3_findFaces 42 = .ok (.getfield 14, 3) := by decide +kernel
theorem dX3_findFaces_45 : decode cX3_findFaces 45 = .ok (.iload_n 1, 1) := by decide +kernel
theorem dX3_findFaces_46 : decode cX3_findFaces 46 = .ok (.iload_n 2, 1) := by decide +kernel
theorem dX3_findFaces_47 : decode cX3_findFaces 47 = .ok (.invokevirtual 102, 3) := by decide +kernel
theorem dX3_findFaces_50 : decode cX3_findFaces 50 = .ok (.iload_n 2, 1) := by decide +kernel
theorem dX3_findFaces_51 : decode cX3_findFaces 51 = .ok (.iconst 1, 1) := by decide +kernel
theorem dX3_findFaces_52 : decode cX3_findFaces 52 = .ok (.iadd, 1) := by decide +kernel
theorem dX3_findFaces_53 : decode cX3_findFaces 53 = .ok (.istore_n 3, 1) := by decide +kernel
theorem dX3_findFaces_54 : decode cX3_findFaces 54 = .ok (.iload_n 3, 1) := by decide +kernel
theorem dX3_findFaces_55 : decode cX3_findFaces 55 = .ok (.aload_n 0, 1) := by decide +kernel
theorem dX3_findFaces_56 : decode cX3_findFaces 56 = .ok (.getfield 14, 3) := by decide +kernel
theorem dX3_findFaces_59 : decode cX3_findFaces 59 = .ok (.getfield 46, 3) := by decide +kernel
theorem dX3_findFaces_62 : decode cX3_findFaces 62 = .ok (.if_icmp .ge 42, 3) := by decide +kernel
theorem dX3_findFaces_65 : decode cX3_findFaces 65 = .ok (.aload_n 0, 1) := by decide +kernel
theorem dX3_findFaces_66 : decode cX3_findFaces 66 = .ok (.getfield 37, 3) := by decide +kernel
theorem dX3_findFaces_69 : decode cX3_findFaces 69 = .ok (.aload_n 0, 1) := by decide +kernel
theorem dX3_findFaces_70 : decode cX3_findFaces 70 = .ok (.getfield 14, 3) := by decide +kernel
theorem dX3_findFaces_73 : decode cX3_findFaces 73 = .ok (.iload_n 1, 1) := by decide +kernel
theorem dX3_findFaces_74 : decode cX3_findFaces 74 = .ok (.iload_n 3, 1) := by decide +kernel
theorem dX3_findFaces_75 : decode cX3_findFaces 75 = .ok (.invokevirtual 102, 3) := by decide +kernel
theorem dX3_findFaces_78 : decode cX3_findFaces 78 = .ok (.aload_n 0, 1) := by decide +kernel
theorem dX3_findFaces_79 : decode cX3_findFaces 79 = .ok (.getfield 43, 3) := by decide +kernel
theorem dX3_findFaces_82 : decode cX3_findFaces 82 = .ok (.aload_n 0, 1) := by decide +kernel
theorem dX3_findFaces_83 : decode cX3_findFaces 83 = .ok (.getfield 33, 3) := by decide +kernel
theorem dX3_findFaces_86 : decode cX3_findFaces 86 = .ok (.aload_n 0, 1) := by decide +kernel
theorem dX3_findFaces_87 : decode cX3_findFaces 87 = .ok (.getfield 37, 3) := by decide +kernel
theorem dX3_findFaces_90 : decode cX3_findFaces 90 = .ok (.invokevirtual 106, 3) := by decide +kernel
theorem dX3_findFaces_93 : decode cX3_findFaces 93 = .ok (.aload_n 0, 1) := by decide +kernel
theorem dX3_findFaces_94 : decode cX3_findFaces 94 = .ok (.iload_n 1, 1) := by decide +kernel
theorem dX3_findFaces_95 : decode cX3_findFaces 95 = .ok (.invokevirtual 135, 3) := by decide +kernel
theorem dX3_findFaces_98 : decode cX3_findFaces 98 = .ok (.iinc 3 1, 3) := by decide +kernel
theorem dX3_findFaces_101 : decode cX3_findFaces 101 = .ok (.goto (-47), 3) := by decide +kernel
theorem dX3_findFaces_104 : decode cX3_findFaces 104 = .ok (.iinc 2 1, 3) := by decide +kernel
theorem dX3_findFaces_107 : decode cX3_findFaces 107 = .ok (.goto (-81), 3) := by decide +kernel
theorem dX3_findFaces_110 : decode cX3_findFaces 110 = .ok (.iinc 1 1, 3) := by decide +kernel
theorem dX3_findFaces_113 : decode cX3_findFaces 113 = .ok (.goto (-102), 3) := by decide +kernel
theorem dX3_findFaces_116 : decode cX3_findFaces 116 = .ok (.return_, 1) := by decide +kernel
set_option maxRecDepth 20000 in
theorem ggX3_trySide_X6_isNought : GoodIn wsX3_trySide wsX6_isNought := goodIn_r _ [9, 10, 11, 12, 68, 69, 70] (by decide +kernel) (by decide +kernel)
set_option maxRecDepth 20000 in
theorem gX3_trySide_X6_isNought : GoodIn wsX3_trySide (wsV RX3 109 RX6 yX6_isNought wsX6_isNought) := goodIn_app (goodIn_of _ (by decide +kernel)) ggX3_trySide_X6_isNought
set_option maxRecDepth 20000 in
theorem ggX3_trySide_X6_at : GoodIn wsX3_trySide wsX6_at := goodIn_r _ [16, 10, 17, 11, 18, 12, 19, 68, 69, 70, 64, 65, 66, 67] (by decide +kernel) (by decide +kernel)
set_option maxRecDepth 20000 in
theorem gX3_trySide_X6_at : GoodIn wsX3_trySide (wsV RX3 138 RX6 yX6_at wsX6_at) := goodIn_app (goodIn_of _ (by decide +kernel)) ggX3_trySide_X6_at
set_option maxRecDepth 20000 in
theorem ggX3_trySide_X6_flip : GoodIn wsX3_trySide wsX6_flip := goodIn_r _ [23, 10, 11, 12, 68, 69, 70] (by decide +kernel) (by decide +kernel)
set_option maxRecDepth 20000 in
theorem gX3_trySide_X6_flip : GoodIn wsX3_trySide (wsV RX3 129 RX6 yX6_flip wsX6_flip) := goodIn_app (goodIn_of _ (by decide +kernel)) ggX3_trySide_X6_flip
set_option maxRecDepth 20000 in
theorem ggX3_trySide_X6_shorten : GoodIn wsX3_trySide wsX6_shorten := goodIn_r _ [27, 10, 28, 29, 30, 31, 11, 12, 32, 33, 8, 34, 68, 69, 70] (by decide +kernel) (by decide +kernel)
set_option maxRecDepth 20000 in
theorem gX3_trySide_X6_shorten : GoodIn wsX3_trySide (wsV RX3 120 RX6 yX6_shorten wsX6_shorten) := goodIn_app (goodIn_of _ (by decide +kernel)) ggX3_trySide_X6_shorten
set_option maxRecDepth 20000 in
theorem ggX3_trySide_X1_putInOrder : GoodIn wsX3_trySide wsX1_putInOrder := goodIn_r _ [39, 40, 41, 42, 43, 44, 45, 46, 38, 47, 48, 49, 50, 51, 52, 53, 54, 55, 71, 72, 73, 74, 75, 68, 69, 70] (by decide +kernel) (by decide +kernel)
set_option maxRecDepth 20000 in
theorem gX3_trySide_X1_putInOrder : GoodIn wsX3_trySide (wsV RX3 142 RX1 yX1_putInOrder wsX1_putInOrder) := goodIn_app (goodIn_of _ (by decide +kernel)) ggX3_trySide_X1_putInOrder
theorem dX3_trySide_0 : decode cX3_trySide 0 = .ok (.aload_n 0, 1) := by decide +kernel
theorem dX3_trySide_1 : decode cX3_trySide 1 = .ok (.getfield 43, 3) := by decide +kernel
theorem dX3_trySide_4 : decode cX3_trySide 4 = .ok (.invokevirtual 109, 3) := by decide +kernel
theorem dX3_trySide_7 : decode cX3_trySide 7 = .ok (.ifCond .eq 4, 3) := by decide +kernel
theorem dX3_trySide_10 : decode cX3_trySide 10 = .ok (.return_, 1) := by decide +kernel
theorem dX3_trySide_11 : decode cX3_trySide 11 = .ok (.aload_n 0, 1) := by decide +kernel
theorem dX3_trySide_12 : decode cX3_trySide 12 = .ok (.getfield 43, 3) := by decide +kernel
theorem dX3_trySide_15 : decode cX3_trySide 15 = .ok (.aload_n 0, 1) := by decide +kernel
theorem dX3_trySide_16 : decode cX3_trySide 16 = .ok (.getfield 14, 3) := by decide +kernel
theorem dX3_trySide_19 : decode cX3_trySide 19 = .ok (.iload_n 1, 1) := by decide +kernel
theorem dX3_trySide_20 : decode cX3_trySide 20 = .ok (.invokevirtual 138, 3) := by decide +kernel
theorem dX3_trySide_23 : decode cX3_trySide 23 = .ok (.istore_n 2, 1) := by decide +kernel
theorem dX3_trySide_24 : decode cX3_trySide 24 = .ok (.iconst 0, 1) := by decide +kernel
theorem dX3_trySide_25 : decode cX3_trySide 25 = .ok (.istore_n 3, 1) := by decide +kernel
theorem dX3_trySide_26 : decode cX3_trySide 26 = .ok (.iconst 0, 1) := by decide +kernel
theorem dX3_trySide_27 : decode cX3_trySide 27 = .ok (.istore 4, 2) := by decide +kernel
theorem dX3_trySide_29 : decode cX3_trySide 29 = .ok (.iconst 0, 1) := by decide +kernel
theorem dX3_trySide_30 : decode cX3_trySide 30 = .ok (.istore 5, 2) := by decide +kernel
theorem dX3_trySide_32 : decode cX3_trySide 32 = .ok (.iload 5, 2) := by decide +kernel
theorem dX3_trySide_34 : decode cX3_trySide 34 = .ok (.aload_n 0, 1) := by decide +kernel
theorem dX3_trySide_35 : decode cX3_trySide 35 = .ok (.getfield 14, 3) := by decide +kernel
theorem dX3_trySide_38 : decode cX3_trySide 38 = .ok (.getfield 46, 3) := by decide +kernel
theorem dX3_trySide_41 : decode cX3_trySide 41 = .ok (.if_icmp .ge 68, 3) := by decide +kernel
theorem dX3_trySide_44 : decode cX3_trySide 44 = .ok (.aload_n 0, 1) := by decide +kernel
theorem dX3_trySide_45 : decode cX3_trySide 45 = .ok (.getfield 43, 3) := by decide +kernel
theorem dX3_trySide_48 : decode cX3_trySide 48 = .ok (.aload_n 0, 1) := by decide +kernel
theorem dX3_trySide_49 : decode cX3_trySide 49 = .ok (.getfield 14, 3) := by decide +kernel
theorem dX3_trySide_52 : decode cX3_trySide 52 = .ok (.iload 5, 2) := by decide +kernel
theorem dX3_trySide_54 : decode cX3_trySide 54 = .ok (.invokevirtual 138, 3) := by decide +kernel
theorem dX3_trySide_57 : decode cX3_trySide 57 = .ok (.istore 6, 2) := by decide +kernel
theorem dX3_trySide_59 : decode cX3_trySide 59 = .ok (.iload_n 3, 1) := by decide +kernel
theorem dX3_trySide_60 : decode cX3_trySide 60 = .ok (.ifCond .ne 9, 3) := by decide +kernel
theorem dX3_trySide_63 : decode cX3_trySide 63 = .ok (.iload 6, 2) := by decide +kernel
theorem dX3_trySide_65 : decode cX3_trySide 65 = .ok (.iload_n 2, 1) := by decide +kernel
theorem dX3_trySide_66 : decode cX3_trySide 66 = .ok (.if_icmp .le 7, 3) := by decide +kernel
theorem dX3_trySide_69 : decode cX3_trySide 69 = .ok (.iconst 1, 1) := by decide +kernel
theorem dX3_trySide_70 : decode cX3_trySide 70 = .ok (.goto 4, 3) := by decide +kernel
theorem dX3_trySide_73 : decode cX3_trySide 73 = .ok (.iconst 0, 1) := by decide +kernel
theorem dX3_trySide_74 : decode cX3_trySide 74 = .ok (.istore_n 3, 1) := by decide +kernel
theorem dX3_trySide_75 : decode cX3_trySide 75 = .ok (.iload 4, 2) := by decide +kernel
theorem dX3_trySide_77 : decode cX3_trySide 77 = .ok (.ifCond .ne 9, 3) := by decide +kernel
theorem dX3_trySide_80 : decode cX3_trySide 80 = .ok (.iload 6, 2) := by decide +kernel
theorem dX3_trySide_82 : decode cX3_trySide 82 = .ok (.iload_n 2, 1) := by decide +kernel
theorem dX3_trySide_83 : decode cX3_trySide 83 = .ok (.if_icmp .ge 7, 3) := by decide +kernel
theorem dX3_trySide_86 : decode cX3_trySide 86 = .ok (.iconst 1, 1) := by decide +kernel
theorem dX3_trySide_87 : decode cX3_trySide 87 = .ok (.goto 4, 3) := by decide +kernel
theorem dX3_trySide_90 : decode cX3_trySide 90 = .ok (.iconst 0, 1) := by decide +kernel
theorem dX3_trySide_91 : decode cX3_trySide 91 = .ok (.istore 4, 2) := by decide +kernel
theorem dX3_trySide_93 : decode cX3_trySide 93 = .ok (.iload_n 3, 1) := by decide +kernel
theorem dX3_trySide_94 : decode cX3_trySide 94 = .ok (.ifCond .eq 9, 3) := by decide +kernel
theorem dX3_trySide_97 : decode cX3_trySide 97 = .ok (.iload 4, 2) := by decide +kernel
theorem dX3_trySide_99 : decode cX3_trySide 99 = .ok (.ifCond .eq 4, 3) := by decide +kernel
theorem dX3_trySide_102 : decode cX3_trySide 102 = .ok (.return_, 1) := by decide +kernel
theorem dX3_trySide_103 : decode cX3_trySide 103 = .ok (.iinc 5 1, 3) := by decide +kernel
theorem dX3_trySide_106 : decode cX3_trySide 106 = .ok (.goto (-74), 3) := by decide +kernel
theorem dX3_trySide_109 : decode cX3_trySide 109 = .ok (.iload_n 3, 1) := by decide +kernel
theorem dX3_trySide_110 : decode cX3_trySide 110 = .ok (.ifCond .eq 10, 3) := by decide +kernel
theorem dX3_trySide_113 : decode cX3_trySide 113 = .ok (.aload_n 0, 1) := by decide +kernel
theorem dX3_trySide_114 : decode cX3_trySide 114 = .ok (.getfield 43, 3) := by decide +kernel
theorem dX3_trySide_117 : decode cX3_trySide 117 = .ok (.invokevirtual 129, 3) := by decide +kernel
theorem dX3_trySide_120 : decode cX3_trySide 120 = .ok (.aload_n 0, 1) := by decide +kernel
theorem dX3_trySide_121 : decode cX3_trySide 121 = .ok (.getfield 43, 3) := by decide +kernel
theorem dX3_trySide_124 : decode cX3_trySide 124 = .ok (.invokevirtual 120, 3) := by decide +kernel
theorem dX3_trySide_127 : decode cX3_trySide 127 = .ok (.aload_n 0, 1) := by decide +kernel
theorem dX3_trySide_128 : decode cX3_trySide 128 = .ok (.getfield 23, 3) := by decide +kernel
theorem dX3_trySide_131 : decode cX3_trySide 131 = .ok (.aload_n 0, 1) := by decide +kernel
theorem dX3_trySide_132 : decode cX3_trySide 132 = .ok (.getfield 43, 3) := by decide +kernel
theorem dX3_trySide_135 : decode cX3_trySide 135 = .ok (.aload_n 0, 1) := by decide +kernel
theorem dX3_trySide_136 : decode cX3_trySide 136 = .ok (.getfield 43, 3) := by decide +kernel
theorem dX3_trySide_139 : decode cX3_trySide 139 = .ok (.aload_n 0, 1) := by decide +kernel
theorem dX3_trySide_140 : decode cX3_trySide 140 = .ok (.getfield 14, 3) := by decide +kernel
theorem dX3_trySide_143 : decode cX3_trySide 143 = .ok (.iload_n 1, 1) := by decide +kernel
theorem dX3_trySide_144 : decode cX3_trySide 144 = .ok (.invokevirtual 138, 3) := by decide +kernel
theorem dX3_trySide_147 : decode cX3_trySide 147 = .ok (.invokevirtual 142, 3) := by decide +kernel
theorem dX3_trySide_150 : decode cX3_trySide 150 = .ok (.return_, 1) := by decide +kernel
set_option maxRecDepth 20000 in
theorem ggX3_cornersFound_X1_touched : GoodIn wsX3_cornersFound wsX1_touched := goodIn_r _ [9, 10, 11, 12, 13, 14, 15, 16, 8, 17, 18, 19, 20, 21, 64, 65, 66, 67, 68, 60, 61, 62, 63] (by decide +kernel) (by decide +kernel)
set_option maxRecDepth 20000 in
theorem gX3_cornersFound_X1_touched : GoodIn wsX3_cornersFound (wsV RX3 146 RX1 yX1_touched wsX1_touched) := goodIn_app (goodIn_of _ (by decide +kernel)) ggX3_cornersFound_X1_touched
set_option maxRecDepth 20000 in
theorem ggX3_cornersFound_X4_copy : GoodIn wsX3_cornersFound wsX4_copy := goodIn_r _ [26, 27, 28, 29, 60, 61, 62, 63] (by decide +kernel) (by decide +kernel)
set_option maxRecDepth 20000 in
theorem gX3_cornersFound_X4_copy : GoodIn wsX3_cornersFound (wsV RX3 149 RX4 yX4_copy wsX4_copy) := goodIn_app (goodIn_of _ (by decide +kernel)) ggX3_cornersFound_X4_copy
set_option maxRecDepth 20000 in
theorem ggX3_cornersFound_X4_trimmed : GoodIn wsX3_cornersFound wsX4_trimmed := goodIn_r _ [33, 34, 35, 25, 36, 27, 37, 38, 39, 40, 28, 29, 41, 42, 43, 44, 45, 46, 47, 48, 49, 50, 51, 60, 61, 62, 63] (by decide +kernel) (by decide +kernel)
set_option maxRecDepth 20000 in
theorem gX3_cornersFound_X4_trimmed : GoodIn wsX3_cornersFound (wsV RX3 153 RX4 yX4_trimmed wsX4_trimmed) := goodIn_app (goodIn_of _ (by decide +kernel)) ggX3_cornersFound_X4_trimmed
theorem dX3_cornersFound_0 : decode cX3_cornersFound 0 = .ok (.iconst 0, 1) := by decide +kernel
theorem dX3_cornersFound_1 : decode cX3_cornersFound 1 = .ok (.istore_n 1, 1) := by decide +kernel
theorem dX3_cornersFound_2 : decode cX3_cornersFound 2 = .ok (.iconst 0, 1) := by decide +kernel
theorem dX3_cornersFound_3 : decode cX3_cornersFound 3 = .ok (.istore_n 2, 1) := by decide +kernel
theorem dX3_cornersFound_4 : decode cX3_cornersFound 4 = .ok (.iload_n 2, 1) := by decide +kernel
theorem dX3_cornersFound_5 : decode cX3_cornersFound 5 = .ok (.aload_n 0, 1) := by decide +kernel
theorem dX3_cornersFound_6 : decode cX3_cornersFound 6 = .ok (.getfield 14, 3) := by decide +kernel
theorem dX3_cornersFound_9 : decode cX3_cornersFound 9 = .ok (.getfield 46, 3) := by decide +kernel
theorem dX3_cornersFound_12 : decode cX3_cornersFound 12 = .ok (.if_icmp .ge 40, 3) := by decide +kernel
theorem dX3_cornersFound_15 : decode cX3_cornersFound 15 = .ok (.aload_n 0, 1) := by decide +kernel
theorem dX3_cornersFound_16 : decode cX3_cornersFound 16 = .ok (.getfield 23, 3) := by decide +kernel
theorem dX3_cornersFound_19 : decode cX3_cornersFound 19 = .ok (.aload_n 0, 1) := by decide +kernel
theorem dX3_cornersFound_20 : decode cX3_cornersFound 20 = .ok (.getfield 14, 3) := by decide +kernel
theorem dX3_cornersFound_23 : decode cX3_cornersFound 23 = .ok (.iload_n 2, 1) := by decide +kernel
theorem dX3_cornersFound_24 : decode cX3_cornersFound 24 = .ok (.invokevirtual 146, 3) := by decide +kernel
theorem dX3_cornersFound_27 : decode cX3_cornersFound 27 = .ok (.aload_n 0, 1) := by decide +kernel
theorem dX3_cornersFound_28 : decode cX3_cornersFound 28 = .ok (.getfield 88, 3) := by decide +kernel
theorem dX3_cornersFound_31 : decode cX3_cornersFound 31 = .ok (.if_icmp .lt 15, 3) := by decide +kernel
theorem dX3_cornersFound_34 : decode cX3_cornersFound 34 = .ok (.aload_n 0, 1) := by decide +kernel
theorem dX3_cornersFound_35 : decode cX3_cornersFound 35 = .ok (.getfield 14, 3) := by decide +kernel
theorem dX3_cornersFound_38 : decode cX3_cornersFound 38 = .ok (.iload_n 2, 1) := by decide +kernel
theorem dX3_cornersFound_39 : decode cX3_cornersFound 39 = .ok (.iload_n 1, 1) := by decide +kernel
theorem dX3_cornersFound_40 : decode cX3_cornersFound 40 = .ok (.invokevirtual 149, 3) := by decide +kernel
theorem dX3_cornersFound_43 : decode cX3_cornersFound 43 = .ok (.iinc 1 1, 3) := by decide +kernel
theorem dX3_cornersFound_46 : decode cX3_cornersFound 46 = .ok (.iinc 2 1, 3) := by decide +kernel
theorem dX3_cornersFound_49 : decode cX3_cornersFound 49 = .ok (.goto (-45), 3) := by decide +kernel
theorem dX3_cornersFound_52 : decode cX3_cornersFound 52 = .ok (.aload_n 0, 1) := by decide +kernel
theorem dX3_cornersFound_53 : decode cX3_cornersFound 53 = .ok (.getfield 14, 3) := by decide +kernel
theorem dX3_cornersFound_56 : decode cX3_cornersFound 56 = .ok (.iload_n 1, 1) := by decide +kernel
theorem dX3_cornersFound_57 : decode cX3_cornersFound 57 = .ok (.putfield 46, 3) := by decide +kernel
theorem dX3_cornersFound_60 : decode cX3_cornersFound 60 = .ok (.aload_n 0, 1) := by decide +kernel
theorem dX3_cornersFound_61 : decode cX3_cornersFound 61 = .ok (.getfield 14, 3) := by decide +kernel
theorem dX3_cornersFound_64 : decode cX3_cornersFound 64 = .ok (.invokevirtual 153, 3) := by decide +kernel
theorem dX3_cornersFound_67 : decode cX3_cornersFound 67 = .ok (.areturn, 1) := by decide +kernel
theorem dX4_init_0 : decode cX4_init 0 = .ok (.aload_n 0, 1) := by decide +kernel
theorem dX4_init_1 : decode cX4_init 1 = .ok (.invokespecial 3, 3) := by decide +kernel
theorem dX4_init_4 : decode cX4_init 4 = .ok (.iload_n 1, 1) := by decide +kernel
theorem dX4_init_5 : decode cX4_init 5 = .ok (.iconst 0, 1) := by decide +kernel
theorem dX4_init_6 : decode cX4_init 6 = .ok (.invokestatic 9, 3) := by decide +kernel
theorem dX4_init_9 : decode cX4_init 9 = .ok (.istore_n 2, 1) := by decide +kernel
theorem dX4_init_10 : decode cX4_init 10 = .ok (.aload_n 0, 1) := by decide +kernel
theorem dX4_init_11 : decode cX4_init 11 = .ok (.iload_n 2, 1) := by decide +kernel
theorem dX4_init_12 : decode cX4_init 12 = .ok (.newarray .int, 2) := by decide +kernel
theorem dX4_init_14 : decode cX4_init 14 = .ok (.putfield 15, 3) := by decide +kernel
theorem dX4_init_17 : decode cX4_init 17 = .ok (.aload_n 0, 1) := by decide +kernel
theorem dX4_init_18 : decode cX4_init 18 = .ok (.iload_n 2, 1) := by decide +kernel
theorem dX4_init_19 : decode cX4_init 19 = .ok (.newarray .int, 2) := by decide +kernel
theorem dX4_init_21 : decode cX4_init 21 = .ok (.putfield 21, 3) := by decide +kernel
theorem dX4_init_24 : decode cX4_init 24 = .ok (.aload_n 0, 1) := by decide +kernel
theorem dX4_init_25 : decode cX4_init 25 = .ok (.iload_n 2, 1) := by decide +kernel
theorem dX4_init_26 : decode cX4_init 26 = .ok (.newarray .int, 2) := by decide +kernel
theorem dX4_init_28 : decode cX4_init 28 = .ok (.putfield 24, 3) := by decide +kernel
theorem dX4_init_31 : decode cX4_init 31 = .ok (.return_, 1) := by decide +kernel
set_option maxRecDepth 20000 in
theorem ggX4_trimmed_X4_init : GoodIn wsX4_trimmed wsX4_init := goodIn_r _ [14, 15, 16, 17, 18, 19, 20, 21, 22, 5, 10, 11, 23, 24, 25, 26] (by decide +kernel) (by decide +kernel)
set_option maxRecDepth 20000 in
theorem gX4_trimmed_X4_init : GoodIn wsX4_trimmed (wsX4_init) := ggX4_trimmed_X4_init
theorem dX4_trimmed_0 : decode cX4_trimmed 0 = .ok (.new 16, 3) := by decide +kernel
theorem dX4_trimmed_3 : decode cX4_trimmed 3 = .ok (.dup, 1) := by decide +kernel
theorem dX4_trimmed_4 : decode cX4_trimmed 4 = .ok (.aload_n 0, 1) := by decide +kernel
theorem dX4_trimmed_5 : decode cX4_trimmed 5 = .ok (.getfield 27, 3) := by decide +kernel
theorem dX4_trimmed_8 : decode cX4_trimmed 8 = .ok (.invokespecial 31, 3) := by decide +kernel
theorem dX4_trimmed_11 : decode cX4_trimmed 11 = .ok (.astore_n 1, 1) := by decide +kernel
theorem dX4_trimmed_12 : decode cX4_trimmed 12 = .ok (.aload_n 0, 1) := by decide +kernel
theorem dX4_trimmed_13 : decode cX4_trimmed 13 = .ok (.getfield 15, 3) := by decide +kernel
theorem dX4_trimmed_16 : decode cX4_trimmed 16 = .ok (.iconst 0, 1) := by decide +kernel
theorem dX4_trimmed_17 : decode cX4_trimmed 17 = .ok (.aload_n 1, 1) := by decide +kernel
theorem dX4_trimmed_18 : decode cX4_trimmed 18 = .ok (.getfield 15, 3) := by decide +kernel
theorem dX4_trimmed_21 : decode cX4_trimmed 21 = .ok (.iconst 0, 1) := by decide +kernel
theorem dX4_trimmed_22 : decode cX4_trimmed 22 = .ok (.aload_n 0, 1) := by decide +kernel
theorem dX4_trimmed_23 : decode cX4_trimmed 23 = .ok (.getfield 27, 3) := by decide +kernel
theorem dX4_trimmed_26 : decode cX4_trimmed 26 = .ok (.invokestatic 34, 3) := by decide +kernel
theorem dX4_trimmed_29 : decode cX4_trimmed 29 = .ok (.aload_n 0, 1) := by decide +kernel
theorem dX4_trimmed_30 : decode cX4_trimmed 30 = .ok (.getfield 21, 3) := by decide +kernel
theorem dX4_trimmed_33 : decode cX4_trimmed 33 = .ok (.iconst 0, 1) := by decide +kernel
theorem dX4_trimmed_34 : decode cX4_trimmed 34 = .ok (.aload_n 1, 1) := by decide +kernel
theorem dX4_trimmed_35 : decode cX4_trimmed 35 = .ok (.getfield 21, 3) := by decide +kernel
theorem dX4_trimmed_38 : decode cX4_trimmed 38 = .ok (.iconst 0, 1) := by decide +kernel
theorem dX4_trimmed_39 : decode cX4_trimmed 39 = .ok (.aload_n 0, 1) := by decide +kernel
theorem dX4_trimmed_40 : decode cX4_trimmed 40 = .ok (.getfield 27, 3) := by decide +kernel
theorem dX4_trimmed_43 : decode cX4_trimmed 43 = .ok (.invokestatic 34, 3) := by decide +kernel
theorem dX4_trimmed_46 : decode cX4_trimmed 46 = .ok (.aload_n 0, 1) := by decide +kernel
theorem dX4_trimmed_47 : decode cX4_trimmed 47 = .ok (.getfield 24, 3) := by decide +kernel
theorem dX4_trimmed_50 : decode cX4_trimmed 50 = .ok (.iconst 0, 1) := by decide +kernel
theorem dX4_trimmed_51 : decode cX4_trimmed 51 = .ok (.aload_n 1, 1) := by decide +kernel
theorem dX4_trimmed_52 : decode cX4_trimmed 52 = .ok (.getfield 24, 3) := by decide +kernel
theorem dX4_trimmed_55 : decode cX4_trimmed 55 = .ok (.iconst 0, 1) := by decide +kernel
theorem dX4_trimmed_56 : decode cX4_trimmed 56 = .ok (.aload_n 0, 1) := by decide +kernel
theorem dX4_trimmed_57 : decode cX4_trimmed 57 = .ok (.getfield 27, 3) := by decide +kernel
theorem dX4_trimmed_60 : decode cX4_trimmed 60 = .ok (.invokestatic 34, 3) := by decide +kernel
theorem dX4_trimmed_63 : decode cX4_trimmed 63 = .ok (.aload_n 1, 1) := by decide +kernel
theorem dX4_trimmed_64 : decode cX4_trimmed 64 = .ok (.aload_n 0, 1) := by decide +kernel
theorem dX4_trimmed_65 : decode cX4_trimmed 65 = .ok (.getfield 27, 3) := by decide +kernel
theorem dX4_trimmed_68 : decode cX4_trimmed 68 = .ok (.putfield 27, 3) := by decide +kernel
theorem dX4_trimmed_71 : decode cX4_trimmed 71 = .ok (.aload_n 1, 1) := by decide +kernel
theorem dX4_trimmed_72 : decode cX4_trimmed 72 = .ok (.areturn, 1) := by decide +kernel
theorem dX4_put_0 : decode cX4_put 0 = .ok (.aload_n 0, 1) := by decide +kernel
theorem dX4_put_1 : decode cX4_put 1 = .ok (.getfield 27, 3) := by decide +kernel
theorem dX4_put_4 : decode cX4_put 4 = .ok (.aload_n 0, 1) := by decide +kernel
theorem dX4_put_5 : decode cX4_put 5 = .ok (.getfield 15, 3) := by decide +kernel
theorem dX4_put_8 : decode cX4_put 8 = .ok (.arraylength, 1) := by decide +kernel
theorem dX4_put_9 : decode cX4_put 9 = .ok (.if_icmp .ge 43, 3) := by decide +kernel
theorem dX4_put_12 : decode cX4_put 12 = .ok (.aload_n 0, 1) := by decide +kernel
theorem dX4_put_13 : decode cX4_put 13 = .ok (.getfield 15, 3) := by decide +kernel
theorem dX4_put_16 : decode cX4_put 16 = .ok (.aload_n 0, 1) := by decide +kernel
theorem dX4_put_17 : decode cX4_put 17 = .ok (.getfield 27, 3) := by decide +kernel
theorem dX4_put_20 : decode cX4_put 20 = .ok (.iload_n 1, 1) := by decide +kernel
theorem dX4_put_21 : decode cX4_put 21 = .ok (.iastore, 1) := by decide +kernel
theorem dX4_put_22 : decode cX4_put 22 = .ok (.aload_n 0, 1) := by decide +kernel
theorem dX4_put_23 : decode cX4_put 23 = .ok (.getfield 21, 3) := by decide +kernel
theorem dX4_put_26 : decode cX4_put 26 = .ok (.aload_n 0, 1) := by decide +kernel
theorem dX4_put_27 : decode cX4_put 27 = .ok (.getfield 27, 3) := by decide +kernel
theorem dX4_put_30 : decode cX4_put 30 = .ok (.iload_n 2, 1) := by decide +kernel
theorem dX4_put_31 : decode cX4_put 31 = .ok (.iastore, 1) := by decide +kernel
theorem dX4_put_32 : decode cX4_put 32 = .ok (.aload_n 0, 1) := by decide +kernel
theorem dX4_put_33 : decode cX4_put 33 = .ok (.getfield 24, 3) := by decide +kernel
theorem dX4_put_36 : decode cX4_put 36 = .ok (.aload_n 0, 1) := by decide +kernel
theorem dX4_put_37 : decode cX4_put 37 = .ok (.getfield 27, 3) := by decide +kernel
theorem dX4_put_40 : decode cX4_put 40 = .ok (.iload_n 3, 1) := by decide +kernel
theorem dX4_put_41 : decode cX4_put 41 = .ok (.iastore, 1) := by decide +kernel
theorem dX4_put_42 : decode cX4_put 42 = .ok (.aload_n 0, 1) := by decide +kernel
theorem dX4_put_43 : decode cX4_put 43 = .ok (.dup, 1) := by decide +kernel
theorem dX4_put_44 : decode cX4_put 44 = .ok (.getfield 27, 3) := by decide +kernel
theorem dX4_put_47 : decode cX4_put 47 = .ok (.iconst 1, 1) := by decide +kernel
theorem dX4_put_48 : decode cX4_put 48 = .ok (.iadd, 1) := by decide +kernel
theorem dX4_put_49 : decode cX4_put 49 = .ok (.putfield 27, 3) := by decide +kernel
theorem dX4_put_52 : decode cX4_put 52 = .ok (.return_, 1) := by decide +kernel
theorem dX4_part_0 : decode cX4_part 0 = .ok (.iload_n 1, 1) := by decide +kernel
theorem dX4_part_1 : decode cX4_part 1 = .ok (.ifCond .lt 11, 3) := by decide +kernel
theorem dX4_part_4 : decode cX4_part 4 = .ok (.iload_n 1, 1) := by decide +kernel
theorem dX4_part_5 : decode cX4_part 5 = .ok (.aload_n 0, 1) := by decide +kernel
theorem dX4_part_6 : decode cX4_part 6 = .ok (.getfield 27, 3) := by decide +kernel
theorem dX4_part_9 : decode cX4_part 9 = .ok (.if_icmp .lt 7, 3) := by decide +kernel
theorem dX4_part_12 : decode cX4_part 12 = .ok (.sipush 1000, 3) := by decide +kernel
theorem dX4_part_15 : decode cX4_part 15 = .ok (.ireturn, 1) := by decide +kernel
theorem dX4_part_16 : decode cX4_part 16 = .ok (.iload_n 2, 1) := by decide +kernel
theorem dX4_part_17 : decode cX4_part 17 = .ok (.lookupswitch 41 #[(0, 27), (1, 34)], 27) := by decide +kernel
theorem dX4_part_44 : decode cX4_part 44 = .ok (.aload_n 0, 1) := by decide +kernel
theorem dX4_part_45 : decode cX4_part 45 = .ok (.getfield 15, 3) := by decide +kernel
theorem dX4_part_48 : decode cX4_part 48 = .ok (.iload_n 1, 1) := by decide +kernel
theorem dX4_part_49 : decode cX4_part 49 = .ok (.iaload, 1) := by decide +kernel
theorem dX4_part_50 : decode cX4_part 50 = .ok (.ireturn, 1) := by decide +kernel
theorem dX4_part_51 : decode cX4_part 51 = .ok (.aload_n 0, 1) := by decide +kernel
theorem dX4_part_52 : decode cX4_part 52 = .ok (.getfield 21, 3) := by decide +kernel
theorem dX4_part_55 : decode cX4_part 55 = .ok (.iload_n 1, 1) := by decide +kernel
theorem dX4_part_56 : decode cX4_part 56 = .ok (.iaload, 1) := by decide +kernel
theorem dX4_part_57 : decode cX4_part 57 = .ok (.ireturn, 1) := by decide +kernel
theorem dX4_part_58 : decode cX4_part 58 = .ok (.aload_n 0, 1) := by decide +kernel
theorem dX4_part_59 : decode cX4_part 59 = .ok (.getfield 24, 3) := by decide +kernel
theorem dX4_part_62 : decode cX4_part 62 = .ok (.iload_n 1, 1) := by decide +kernel
theorem dX4_part_63 : decode cX4_part 63 = .ok (.iaload, 1) := by decide +kernel
theorem dX4_part_64 : decode cX4_part 64 = .ok (.ireturn, 1) := by decide +kernel
theorem dX4_compare_0 : decode cX4_compare 0 = .ok (.aload_n 0, 1) := by decide +kernel
theorem dX4_compare_1 : decode cX4_compare 1 = .ok (.getfield 15, 3) := by decide +kernel
theorem dX4_compare_4 : decode cX4_compare 4 = .ok (.iload_n 1, 1) := by decide +kernel
theorem dX4_compare_5 : decode cX4_compare 5 = .ok (.iaload, 1) := by decide +kernel
theorem dX4_compare_6 : decode cX4_compare 6 = .ok (.aload_n 2, 1) := by decide +kernel
theorem dX4_compare_7 : decode cX4_compare 7 = .ok (.getfield 15, 3) := by decide +kernel
theorem dX4_compare_10 : decode cX4_compare 10 = .ok (.iload_n 3, 1) := by decide +kernel
theorem dX4_compare_11 : decode cX4_compare 11 = .ok (.iaload, 1) := by decide +kernel
theorem dX4_compare_12 : decode cX4_compare 12 = .ok (.if_icmp .eq 17, 3) := by decide +kernel
theorem dX4_compare_15 : decode cX4_compare 15 = .ok (.aload_n 0, 1) := by decide +kernel
theorem dX4_compare_16 : decode cX4_compare 16 = .ok (.getfield 15, 3) := by decide +kernel
theorem dX4_compare_19 : decode cX4_compare 19 = .ok (.iload_n 1, 1) := by decide +kernel
theorem dX4_compare_20 : decode cX4_compare 20 = .ok (.iaload, 1) := by decide +kernel
theorem dX4_compare_21 : decode cX4_compare 21 = .ok (.aload_n 2, 1) := by decide +kernel
theorem dX4_compare_22 : decode cX4_compare 22 = .ok (.getfield 15, 3) := by decide +kernel
theorem dX4_compare_25 : decode cX4_compare 25 = .ok (.iload_n 3, 1) := by decide +kernel
theorem dX4_compare_26 : decode cX4_compare 26 = .ok (.iaload, 1) := by decide +kernel
theorem dX4_compare_27 : decode cX4_compare 27 = .ok (.isub, 1) := by decide +kernel
theorem dX4_compare_28 : decode cX4_compare 28 = .ok (.ireturn, 1) := by decide +kernel
theorem dX4_compare_29 : decode cX4_compare 29 = .ok (.aload_n 0, 1) := by decide +kernel
theorem dX4_compare_30 : decode cX4_compare 30 = .ok (.getfield 21, 3) := by decide +kernel
theorem dX4_compare_33 : decode cX4_compare 33 = .ok (.iload_n 1, 1) := by decide +kernel
theorem dX4_compare_34 : decode cX4_compare 34 = .ok (.iaload, 1) := by decide +kernel
theorem dX4_compare_35 : decode cX4_compare 35 = .ok (.aload_n 2, 1) := by decide +kernel
theorem dX4_compare_36 : decode cX4_compare 36 = .ok (.getfield 21, 3) := by decide +kernel
theorem dX4_compare_39 : decode cX4_compare 39 = .ok (.iload_n 3, 1) := by decide +kernel
theorem dX4_compare_40 : decode cX4_compare 40 = .ok (.iaload, 1) := by decide +kernel
theorem dX4_compare_41 : decode cX4_compare 41 = .ok (.if_icmp .eq 17, 3) := by decide +kernel
theorem dX4_compare_44 : decode cX4_compare 44 = .ok (.aload_n 0, 1) := by decide +kernel
theorem dX4_compare_45 : decode cX4_compare 45 = .ok (.getfield 21, 3) := by decide +kernel
theorem dX4_compare_48 : decode cX4_compare 48 = .ok (.iload_n 1, 1) := by decide +kernel
theorem dX4_compare_49 : decode cX4_compare 49 = .ok (.iaload, 1) := by decide +kernel
theorem dX4_compare_50 : decode cX4_compare 50 = .ok (.aload_n 2, 1) := by decide +kernel
theorem dX4_compare_51 : decode cX4_compare 51 = .ok (.getfield 21, 3) := by decide +kernel
theorem dX4_compare_54 : decode cX4_compare 54 = .ok (.iload_n 3, 1) := by decide +kernel
theorem dX4_compare_55 : decode cX4_compare 55 = .ok (.iaload, 1) := by decide +kernel
theorem dX4_compare_56 : decode cX4_compare 56 = .ok (.isub, 1) := by decide +kernel
theorem dX4_compare_57 : decode cX4_compare 57 = .ok (.ireturn, 1) := by decide +kernel
theorem dX4_compare_58 : decode cX4_compare 58 = .ok (.aload_n 0, 1) := by decide +kernel
theorem dX4_compare_59 : decode cX4_compare 59 = .ok (.getfield 24, 3) := by decide +kernel
theorem dX4_compare_62 : decode cX4_compare 62 = .ok (.iload_n 1, 1) := by decide +kernel
theorem dX4_compare_63 : decode cX4_compare 63 = .ok (.iaload, 1) := by decide +kernel
theorem dX4_compare_64 : decode cX4_compare 64 = .ok (.aload_n 2, 1) := by decide +kernel
theorem dX4_compare_65 : decode cX4_compare 65 = .ok (.getfield 24, 3) := by decide +kernel
theorem dX4_compare_68 : decode cX4_compare 68 = .ok (.iload_n 3, 1) := by decide +kernel
theorem dX4_compare_69 : decode cX4_compare 69 = .ok (.iaload, 1) := by decide +kernel
theorem dX4_compare_70 : decode cX4_compare 70 = .ok (.isub, 1) := by decide +kernel
theorem dX4_compare_71 : decode cX4_compare 71 = .ok (.ireturn, 1) := by decide +kernel
set_option maxRecDepth 20000 in
theorem ggX4_sort_X4_compare : GoodIn wsX4_sort wsX4_compare := goodIn_r _ [6, 7, 8, 9, 18, 19, 20, 21] (by decide +kernel) (by decide +kernel)
set_option maxRecDepth 20000 in
theorem gX4_sort_X4_compare : GoodIn wsX4_sort (wsV RX4 40 RX4 yX4_compare wsX4_compare) := goodIn_app (goodIn_of _ (by decide +kernel)) ggX4_sort_X4_compare
set_option maxRecDepth 20000 in
theorem ggX4_sort_X4_swap : GoodIn wsX4_sort wsX4_swap := goodIn_r _ [13, 7, 8, 9, 14, 15, 16, 5, 17, 18, 19, 20, 21] (by decide +kernel) (by decide +kernel)
set_option maxRecDepth 20000 in
theorem gX4_sort_X4_swap : GoodIn wsX4_sort (wsV RX4 44 RX4 yX4_swap wsX4_swap) := goodIn_app (goodIn_of _ (by decide +kernel)) ggX4_sort_X4_swap
theorem dX4_sort_0 : decode cX4_sort 0 = .ok (.iconst 1, 1) := by decide +kernel
theorem dX4_sort_1 : decode cX4_sort 1 = .ok (.istore_n 1, 1) := by decide +kernel
theorem dX4_sort_2 : decode cX4_sort 2 = .ok (.iload_n 1, 1) := by decide +kernel
theorem dX4_sort_3 : decode cX4_sort 3 = .ok (.aload_n 0, 1) := by decide +kernel
theorem dX4_sort_4 : decode cX4_sort 4 = .ok (.getfield 27, 3) := by decide +kernel
theorem dX4_sort_7 : decode cX4_sort 7 = .ok (.if_icmp .ge 41, 3) := by decide +kernel
theorem dX4_sort_10 : decode cX4_sort 10 = .ok (.iload_n 1, 1) := by decide +kernel
theorem dX4_sort_11 : decode cX4_sort 11 = .ok (.istore_n 2, 1) := by decide +kernel
theorem dX4_sort_12 : decode cX4_sort 12 = .ok (.iload_n 2, 1) := by decide +kernel
theorem dX4_sort_13 : decode cX4_sort 13 = .ok (.ifCond .le 29, 3) := by decide +kernel
theorem dX4_sort_16 : decode cX4_sort 16 = .ok (.aload_n 0, 1) := by decide +kernel
theorem dX4_sort_17 : decode cX4_sort 17 = .ok (.iload_n 2, 1) := by decide +kernel
theorem dX4_sort_18 : decode cX4_sort 18 = .ok (.iconst 1, 1) := by decide +kernel
theorem dX4_sort_19 : decode cX4_sort 19 = .ok (.isub, 1) := by decide +kernel
theorem dX4_sort_20 : decode cX4_sort 20 = .ok (.aload_n 0, 1) := by decide +kernel
theorem dX4_sort_21 : decode cX4_sort 21 = .ok (.iload_n 2, 1) := by decide +kernel
theorem dX4_sort_22 : decode cX4_sort 22 = .ok (.invokevirtual 40, 3) := by decide +kernel
theorem dX4_sort_25 : decode cX4_sort 25 = .ok (.ifCond .le 17, 3) := by decide +kernel
theorem dX4_sort_28 : decode cX4_sort 28 = .ok (.aload_n 0, 1) := by decide +kernel
theorem dX4_sort_29 : decode cX4_sort 29 = .ok (.iload_n 2, 1) := by decide +kernel
theorem dX4_sort_30 : decode cX4_sort 30 = .ok (.iconst 1, 1) := by decide +kernel
theorem dX4_sort_31 : decode cX4_sort 31 = .ok (.isub, 1) := by decide +kernel
theorem dX4_sort_32 : decode cX4_sort 32 = .ok (.iload_n 2, 1) := by decide +kernel
theorem dX4_sort_33 : decode cX4_sort 33 = .ok (.invokevirtual 44, 3) := by decide +kernel
theorem dX4_sort_36 : decode cX4_sort 36 = .ok (.iinc 2 (-1), 3) := by decide +kernel
theorem dX4_sort_39 : decode cX4_sort 39 = .ok (.goto (-27), 3) := by decide +kernel
theorem dX4_sort_42 : decode cX4_sort 42 = .ok (.iinc 1 1, 3) := by decide +kernel
theorem dX4_sort_45 : decode cX4_sort 45 = .ok (.goto (-43), 3) := by decide +kernel
theorem dX4_sort_48 : decode cX4_sort 48 = .ok (.return_, 1) := by decide +kernel
set_option maxRecDepth 20000 in
theorem ggX4_swap_X4_copy : GoodIn wsX4_swap wsX4_copy := goodIn_r _ [8, 1, 2, 3, 9, 10, 11, 12] (by decide +kernel) (by decide +kernel)
set_option maxRecDepth 20000 in
theorem gX4_swap_X4_copy : GoodIn wsX4_swap (wsV RX4 48 RX4 yX4_copy wsX4_copy) := goodIn_app (goodIn_of _ (by decide +kernel)) ggX4_swap_X4_copy
theorem dX4_swap_0 : decode cX4_swap 0 = .ok (.aload_n 0, 1) := by decide +kernel
theorem dX4_swap_1 : decode cX4_swap 1 = .ok (.getfield 15, 3) := by decide +kernel
theorem dX4_swap_4 : decode cX4_swap 4 = .ok (.iload_n 1, 1) := by decide +kernel
theorem dX4_swap_5 : decode cX4_swap 5 = .ok (.iaload, 1) := by decide +kernel
theorem dX4_swap_6 : decode cX4_swap 6 = .ok (.istore_n 3, 1) := by decide +kernel
theorem dX4_swap_7 : decode cX4_swap 7 = .ok (.aload_n 0, 1) := by decide +kernel
theorem dX4_swap_8 : decode cX4_swap 8 = .ok (.getfield 21, 3) := by decide +kernel
theorem dX4_swap_11 : decode cX4_swap 11 = .ok (.iload_n 1, 1) := by decide +kernel
theorem dX4_swap_12 : decode cX4_swap 12 = .ok (.iaload, 1) := by decide +kernel
theorem dX4_swap_13 : decode cX4_swap 13 = .ok (.istore 4, 2) := by decide +kernel
theorem dX4_swap_15 : decode cX4_swap 15 = .ok (.aload_n 0, 1) := by decide +kernel
theorem dX4_swap_16 : decode cX4_swap 16 = .ok (.getfield 24, 3) := by decide +kernel
theorem dX4_swap_19 : decode cX4_swap 19 = .ok (.iload_n 1, 1) := by decide +kernel
theorem dX4_swap_20 : decode cX4_swap 20 = .ok (.iaload, 1) := by decide +kernel
theorem dX4_swap_21 : decode cX4_swap 21 = .ok (.istore 5, 2) := by decide +kernel
theorem dX4_swap_23 : decode cX4_swap 23 = .ok (.aload_n 0, 1) := by decide +kernel
theorem dX4_swap_24 : decode cX4_swap 24 = .ok (.iload_n 2, 1) := by decide +kernel
theorem dX4_swap_25 : decode cX4_swap 25 = .ok (.iload_n 1, 1) := by decide +kernel
theorem dX4_swap_26 : decode cX4_swap 26 = .ok (.invokevirtual 48, 3) := by decide +kernel
theorem dX4_swap_29 : decode cX4_swap 29 = .ok (.aload_n 0, 1) := by decide +kernel
theorem dX4_swap_30 : decode cX4_swap 30 = .ok (.getfield 15, 3) := by decide +kernel
theorem dX4_swap_33 : decode cX4_swap 33 = .ok (.iload_n 2, 1) := by decide +kernel
theorem dX4_swap_34 : decode cX4_swap 34 = .ok (.iload_n 3, 1) := by decide +kernel
theorem dX4_swap_35 : decode cX4_swap 35 = .ok (.iastore, 1) := by decide +kernel
theorem dX4_swap_36 : decode cX4_swap 36 = .ok (.aload_n 0, 1) := by decide +kernel
theorem dX4_swap_37 : decode cX4_swap 37 = .ok (.getfield 21, 3) := by decide +kernel
theorem dX4_swap_40 : decode cX4_swap 40 = .ok (.iload_n 2, 1) := by decide +kernel
theorem dX4_swap_41 : decode cX4_swap 41 = .ok (.iload 4, 2) := by decide +kernel
theorem dX4_swap_43 : decode cX4_swap 43 = .ok (.iastore, 1) := by decide +kernel
theorem dX4_swap_44 : decode cX4_swap 44 = .ok (.aload_n 0, 1) := by decide +kernel
theorem dX4_swap_45 : decode cX4_swap 45 = .ok (.getfield 24, 3) := by decide +kernel
theorem dX4_swap_48 : decode cX4_swap 48 = .ok (.iload_n 2, 1) := by decide +kernel
theorem dX4_swap_49 : decode cX4_swap 49 = .ok (.iload 5, 2) := by decide +kernel
theorem dX4_swap_51 : decode cX4_swap 51 = .ok (.iastore, 1) := by decide +kernel
theorem dX4_swap_52 : decode cX4_swap 52 = .ok (.return_, 1) := by decide +kernel
theorem dX4_copy_0 : decode cX4_copy 0 = .ok (.aload_n 0, 1) := by decide +kernel
theorem dX4_copy_1 : decode cX4_copy 1 = .ok (.getfield 15, 3) := by decide +kernel
theorem dX4_copy_4 : decode cX4_copy 4 = .ok (.iload_n 2, 1) := by decide +kernel
theorem dX4_copy_5 : decode cX4_copy 5 = .ok (.aload_n 0, 1) := by decide +kernel
theorem dX4_copy_6 : decode cX4_copy 6 = .ok (.getfield 15, 3) := by decide +kernel
theorem dX4_copy_9 : decode cX4_copy 9 = .ok (.iload_n 1, 1) := by decide +kernel
theorem dX4_copy_10 : decode cX4_copy 10 = .ok (.iaload, 1) := by decide +kernel
theorem dX4_copy_11 : decode cX4_copy 11 = .ok (.iastore, 1) := by decide +kernel
theorem dX4_copy_12 : decode cX4_copy 12 = .ok (.aload_n 0, 1) := by decide +kernel
theorem dX4_copy_13 : decode cX4_copy 13 = .ok (.getfield 21, 3) := by decide +kernel
theorem dX4_copy_16 : decode cX4_copy 16 = .ok (.iload_n 2, 1) := by decide +kernel
theorem dX4_copy_17 : decode cX4_copy 17 = .ok (.aload_n 0, 1) := by decide +kernel
theorem dX4_copy_18 : decode cX4_copy 18 = .ok (.getfield 21, 3) := by decide +kernel
theorem dX4_copy_21 : decode cX4_copy 21 = .ok (.iload_n 1, 1) := by decide +kernel
theorem dX4_copy_22 : decode cX4_copy 22 = .ok (.iaload, 1) := by decide +kernel
theorem dX4_copy_23 : decode cX4_copy 23 = .ok (.iastore, 1) := by decide +kernel
theorem dX4_copy_24 : decode cX4_copy 24 = .ok (.aload_n 0, 1) := by decide +kernel
theorem dX4_copy_25 : decode cX4_copy 25 = .ok (.getfield 24, 3) := by decide +kernel
theorem dX4_copy_28 : decode cX4_copy 28 = .ok (.iload_n 2, 1) := by decide +kernel
theorem dX4_copy_29 : decode cX4_copy 29 = .ok (.aload_n 0, 1) := by decide +kernel
theorem dX4_copy_30 : decode cX4_copy 30 = .ok (.getfield 24, 3) := by decide +kernel
theorem dX4_copy_33 : decode cX4_copy 33 = .ok (.iload_n 1, 1) := by decide +kernel
theorem dX4_copy_34 : decode cX4_copy 34 = .ok (.iaload, 1) := by decide +kernel
theorem dX4_copy_35 : decode cX4_copy 35 = .ok (.iastore, 1) := by decide +kernel
theorem dX4_copy_36 : decode cX4_copy 36 = .ok (.return_, 1) := by decide +kernel
set_option maxRecDepth 20000 in
theorem ggX4_thin_X4_compare : GoodIn wsX4_thin wsX4_compare := goodIn_r _ [6, 7, 8, 9, 18, 19, 20, 21] (by decide +kernel) (by decide +kernel)
set_option maxRecDepth 20000 in
theorem gX4_thin_X4_compare : GoodIn wsX4_thin (wsV RX4 40 RX4 yX4_compare wsX4_compare) := goodIn_app (goodIn_of _ (by decide +kernel)) ggX4_thin_X4_compare
set_option maxRecDepth 20000 in
theorem ggX4_thin_X4_inRow : GoodIn wsX4_thin wsX4_inRow := goodIn_r _ [13, 7, 8, 9, 18, 19, 20, 21] (by decide +kernel) (by decide +kernel)
set_option maxRecDepth 20000 in
theorem gX4_thin_X4_inRow : GoodIn wsX4_thin (wsV RX4 51 RX4 yX4_inRow wsX4_inRow) := goodIn_app (goodIn_of _ (by decide +kernel)) ggX4_thin_X4_inRow
set_option maxRecDepth 20000 in
theorem ggX4_thin_X4_copy : GoodIn wsX4_thin wsX4_copy := goodIn_r _ [17, 7, 8, 9, 18, 19, 20, 21] (by decide +kernel) (by decide +kernel)
set_option maxRecDepth 20000 in
theorem gX4_thin_X4_copy : GoodIn wsX4_thin (wsV RX4 48 RX4 yX4_copy wsX4_copy) := goodIn_app (goodIn_of _ (by decide +kernel)) ggX4_thin_X4_copy
theorem dX4_thin_0 : decode cX4_thin 0 = .ok (.iconst 0, 1) := by decide +kernel
theorem dX4_thin_1 : decode cX4_thin 1 = .ok (.istore_n 1, 1) := by decide +kernel
theorem dX4_thin_2 : decode cX4_thin 2 = .ok (.iconst 0, 1) := by decide +kernel
theorem dX4_thin_3 : decode cX4_thin 3 = .ok (.istore_n 2, 1) := by decide +kernel
theorem dX4_thin_4 : decode cX4_thin 4 = .ok (.iload_n 2, 1) := by decide +kernel
theorem dX4_thin_5 : decode cX4_thin 5 = .ok (.aload_n 0, 1) := by decide +kernel
theorem dX4_thin_6 : decode cX4_thin 6 = .ok (.getfield 27, 3) := by decide +kernel
theorem dX4_thin_9 : decode cX4_thin 9 = .ok (.if_icmp .ge 59, 3) := by decide +kernel
theorem dX4_thin_12 : decode cX4_thin 12 = .ok (.iload_n 1, 1) := by decide +kernel
theorem dX4_thin_13 : decode cX4_thin 13 = .ok (.ifCond .le 18, 3) := by decide +kernel
theorem dX4_thin_16 : decode cX4_thin 16 = .ok (.aload_n 0, 1) := by decide +kernel
theorem dX4_thin_17 : decode cX4_thin 17 = .ok (.iload_n 1, 1) := by decide +kernel
theorem dX4_thin_18 : decode cX4_thin 18 = .ok (.iconst 1, 1) := by decide +kernel
theorem dX4_thin_19 : decode cX4_thin 19 = .ok (.isub, 1) := by decide +kernel
theorem dX4_thin_20 : decode cX4_thin 20 = .ok (.aload_n 0, 1) := by decide +kernel
theorem dX4_thin_21 : decode cX4_thin 21 = .ok (.iload_n 2, 1) := by decide +kernel
theorem dX4_thin_22 : decode cX4_thin 22 = .ok (.invokevirtual 40, 3) := by decide +kernel
theorem dX4_thin_25 : decode cX4_thin 25 = .ok (.ifCond .ne 6, 3) := by decide +kernel
theorem dX4_thin_28 : decode cX4_thin 28 = .ok (.goto 34, 3) := by decide +kernel
theorem dX4_thin_31 : decode cX4_thin 31 = .ok (.iload_n 1, 1) := by decide +kernel
theorem dX4_thin_32 : decode cX4_thin 32 = .ok (.iconst 1, 1) := by decide +kernel
theorem dX4_thin_33 : decode cX4_thin 33 = .ok (.if_icmp .le 20, 3) := by decide +kernel
theorem dX4_thin_36 : decode cX4_thin 36 = .ok (.aload_n 0, 1) := by decide +kernel
theorem dX4_thin_37 : decode cX4_thin 37 = .ok (.iload_n 1, 1) := by decide +kernel
theorem dX4_thin_38 : decode cX4_thin 38 = .ok (.iconst 2, 1) := by decide +kernel
theorem dX4_thin_39 : decode cX4_thin 39 = .ok (.isub, 1) := by decide +kernel
theorem dX4_thin_40 : decode cX4_thin 40 = .ok (.iload_n 1, 1) := by decide +kernel
theorem dX4_thin_41 : decode cX4_thin 41 = .ok (.iconst 1, 1) := by decide +kernel
theorem dX4_thin_42 : decode cX4_thin 42 = .ok (.isub, 1) := by decide +kernel
theorem dX4_thin_43 : decode cX4_thin 43 = .ok (.iload_n 2, 1) := by decide +kernel
theorem dX4_thin_44 : decode cX4_thin 44 = .ok (.invokevirtual 51, 3) := by decide +kernel
theorem dX4_thin_47 : decode cX4_thin 47 = .ok (.ifCond .eq 6, 3) := by decide +kernel
theorem dX4_thin_50 : decode cX4_thin 50 = .ok (.iinc 1 (-1), 3) := by decide +kernel
theorem dX4_thin_53 : decode cX4_thin 53 = .ok (.aload_n 0, 1) := by decide +kernel
theorem dX4_thin_54 : decode cX4_thin 54 = .ok (.iload_n 2, 1) := by decide +kernel
theorem dX4_thin_55 : decode cX4_thin 55 = .ok (.iload_n 1, 1) := by decide +kernel
theorem dX4_thin_56 : decode cX4_thin 56 = .ok (.invokevirtual 48, 3) := by decide +kernel
theorem dX4_thin_59 : decode cX4_thin 59 = .ok (.iinc 1 1, 3) := by decide +kernel
theorem dX4_thin_62 : decode cX4_thin 62 = .ok (.iinc 2 1, 3) := by decide +kernel
theorem dX4_thin_65 : decode cX4_thin 65 = .ok (.goto (-61), 3) := by decide +kernel
theorem dX4_thin_68 : decode cX4_thin 68 = .ok (.aload_n 0, 1) := by decide +kernel
theorem dX4_thin_69 : decode cX4_thin 69 = .ok (.iload_n 1, 1) := by decide +kernel
theorem dX4_thin_70 : decode cX4_thin 70 = .ok (.putfield 27, 3) := by decide +kernel
theorem dX4_thin_73 : decode cX4_thin 73 = .ok (.return_, 1) := by decide +kernel
theorem dX4_inRow_0 : decode cX4_inRow 0 = .ok (.aload_n 0, 1) := by decide +kernel
theorem dX4_inRow_1 : decode cX4_inRow 1 = .ok (.getfield 15, 3) := by decide +kernel
theorem dX4_inRow_4 : decode cX4_inRow 4 = .ok (.iload_n 2, 1) := by decide +kernel
theorem dX4_inRow_5 : decode cX4_inRow 5 = .ok (.iaload, 1) := by decide +kernel
theorem dX4_inRow_6 : decode cX4_inRow 6 = .ok (.aload_n 0, 1) := by decide +kernel
theorem dX4_inRow_7 : decode cX4_inRow 7 = .ok (.getfield 15, 3) := by decide +kernel
theorem dX4_inRow_10 : decode cX4_inRow 10 = .ok (.iload_n 1, 1) := by decide +kernel
theorem dX4_inRow_11 : decode cX4_inRow 11 = .ok (.iaload, 1) := by decide +kernel
theorem dX4_inRow_12 : decode cX4_inRow 12 = .ok (.isub, 1) := by decide +kernel
theorem dX4_inRow_13 : decode cX4_inRow 13 = .ok (.istore 4, 2) := by decide +kernel
theorem dX4_inRow_15 : decode cX4_inRow 15 = .ok (.aload_n 0, 1) := by decide +kernel
theorem dX4_inRow_16 : decode cX4_inRow 16 = .ok (.getfield 21, 3) := by decide +kernel
theorem dX4_inRow_19 : decode cX4_inRow 19 = .ok (.iload_n 2, 1) := by decide +kernel
theorem dX4_inRow_20 : decode cX4_inRow 20 = .ok (.iaload, 1) := by decide +kernel
theorem dX4_inRow_21 : decode cX4_inRow 21 = .ok (.aload_n 0, 1) := by decide +kernel
theorem dX4_inRow_22 : decode cX4_inRow 22 = .ok (.getfield 21, 3) := by decide +kernel
theorem dX4_inRow_25 : decode cX4_inRow 25 = .ok (.iload_n 1, 1) := by decide +kernel
theorem dX4_inRow_26 : decode cX4_inRow 26 = .ok (.iaload, 1) := by decide +kernel
theorem dX4_inRow_27 : decode cX4_inRow 27 = .ok (.isub, 1) := by decide +kernel
theorem dX4_inRow_28 : decode cX4_inRow 28 = .ok (.istore 5, 2) := by decide +kernel
theorem dX4_inRow_30 : decode cX4_inRow 30 = .ok (.aload_n 0, 1) := by decide +kernel
theorem dX4_inRow_31 : decode cX4_inRow 31 = .ok (.getfield 24, 3) := by decide +kernel
theorem dX4_inRow_34 : decode cX4_inRow 34 = .ok (.iload_n 2, 1) := by decide +kernel
theorem dX4_inRow_35 : decode cX4_inRow 35 = .ok (.iaload, 1) := by decide +kernel
theorem dX4_inRow_36 : decode cX4_inRow 36 = .ok (.aload_n 0, 1) := by decide +kernel
theorem dX4_inRow_37 : decode cX4_inRow 37 = .ok (.getfield 24, 3) := by decide +kernel
theorem dX4_inRow_40 : decode cX4_inRow 40 = .ok (.iload_n 1, 1) := by decide +kernel
theorem dX4_inRow_41 : decode cX4_inRow 41 = .ok (.iaload, 1) := by decide +kernel
theorem dX4_inRow_42 : decode cX4_inRow 42 = .ok (.isub, 1) := by decide +kernel
theorem dX4_inRow_43 : decode cX4_inRow 43 = .ok (.istore 6, 2) := by decide +kernel
theorem dX4_inRow_45 : decode cX4_inRow 45 = .ok (.aload_n 0, 1) := by decide +kernel
theorem dX4_inRow_46 : decode cX4_inRow 46 = .ok (.getfield 15, 3) := by decide +kernel
theorem dX4_inRow_49 : decode cX4_inRow 49 = .ok (.iload_n 3, 1) := by decide +kernel
theorem dX4_inRow_50 : decode cX4_inRow 50 = .ok (.iaload, 1) := by decide +kernel
theorem dX4_inRow_51 : decode cX4_inRow 51 = .ok (.aload_n 0, 1) := by decide +kernel
theorem dX4_inRow_52 : decode cX4_inRow 52 = .ok (.getfield 15, 3) := by decide +kernel
theorem dX4_inRow_55 : decode cX4_inRow 55 = .ok (.iload_n 1, 1) := by decide +kernel
theorem dX4_inRow_56 : decode cX4_inRow 56 = .ok (.iaload, 1) := by decide +kernel
theorem dX4_inRow_57 : decode cX4_inRow 57 = .ok (.isub, 1) := by decide +kernel
theorem dX4_inRow_58 : decode cX4_inRow 58 = .ok (.istore 7, 2) := by decide +kernel
theorem dX4_inRow_60 : decode cX4_inRow 60 = .ok (.aload_n 0, 1) := by decide +kernel
theorem dX4_inRow_61 : decode cX4_inRow 61 = .ok (.getfield 21, 3) := by decide +kernel
theorem dX4_inRow_64 : decode cX4_inRow 64 = .ok (.iload_n 3, 1) := by decide +kernel
theorem dX4_inRow_65 : decode cX4_inRow 65 = .ok (.iaload, 1) := by decide +kernel
theorem dX4_inRow_66 : decode cX4_inRow 66 = .ok (.aload_n 0, 1) := by decide +kernel
theorem dX4_inRow_67 : decode cX4_inRow 67 = .ok (.getfield 21, 3) := by decide +kernel
theorem dX4_inRow_70 : decode cX4_inRow 70 = .ok (.iload_n 1, 1) := by decide +kernel
theorem dX4_inRow_71 : decode cX4_inRow 71 = .ok (.iaload, 1) := by decide +kernel
theorem dX4_inRow_72 : decode cX4_inRow 72 = .ok (.isub, 1) := by decide +kernel
theorem dX4_inRow_73 : decode cX4_inRow 73 = .ok (.istore 8, 2) := by decide +kernel
theorem dX4_inRow_75 : decode cX4_inRow 75 = .ok (.aload_n 0, 1) := by decide +kernel
theorem dX4_inRow_76 : decode cX4_inRow 76 = .ok (.getfield 24, 3) := by decide +kernel
theorem dX4_inRow_79 : decode cX4_inRow 79 = .ok (.iload_n 3, 1) := by decide +kernel
theorem dX4_inRow_80 : decode cX4_inRow 80 = .ok (.iaload, 1) := by decide +kernel
theorem dX4_inRow_81 : decode cX4_inRow 81 = .ok (.aload_n 0, 1) := by decide +kernel
theorem dX4_inRow_82 : decode cX4_inRow 82 = .ok (.getfield 24, 3) := by decide +kernel
theorem dX4_inRow_85 : decode cX4_inRow 85 = .ok (.iload_n 1, 1) := by decide +kernel
theorem dX4_inRow_86 : decode cX4_inRow 86 = .ok (.iaload, 1) := by decide +kernel
theorem dX4_inRow_87 : decode cX4_inRow 87 = .ok (.isub, 1) := by decide +kernel
theorem dX4_inRow_88 : decode cX4_inRow 88 = .ok (.istore 9, 2) := by decide +kernel
theorem dX4_inRow_90 : decode cX4_inRow 90 = .ok (.iload 5, 2) := by decide +kernel
theorem dX4_inRow_92 : decode cX4_inRow 92 = .ok (.iload 9, 2) := by decide +kernel
theorem dX4_inRow_94 : decode cX4_inRow 94 = .ok (.imul, 1) := by decide +kernel
theorem dX4_inRow_95 : decode cX4_inRow 95 = .ok (.iload 6, 2) := by decide +kernel
theorem dX4_inRow_97 : decode cX4_inRow 97 = .ok (.iload 8, 2) := by decide +kernel
theorem dX4_inRow_99 : decode cX4_inRow 99 = .ok (.imul, 1) := by decide +kernel
theorem dX4_inRow_100 : decode cX4_inRow 100 = .ok (.if_icmp .ne 33, 3) := by decide +kernel
theorem dX4_inRow_103 : decode cX4_inRow 103 = .ok (.iload 6, 2) := by decide +kernel
theorem dX4_inRow_105 : decode cX4_inRow 105 = .ok (.iload 7, 2) := by decide +kernel
theorem dX4_inRow_107 : decode cX4_inRow 107 = .ok (.imul, 1) := by decide +kernel
theorem dX4_inRow_108 : decode cX4_inRow 108 = .ok (.iload 4, 2) := by decide +kernel
theorem dX4_inRow_110 : decode cX4_inRow 110 = .ok (.iload 9, 2) := by decide +kernel
theorem dX4_inRow_112 : decode cX4_inRow 112 = .ok (.imul, 1) := by decide +kernel
theorem dX4_inRow_113 : decode cX4_inRow 113 = .ok (.if_icmp .ne 20, 3) := by decide +kernel
theorem dX4_inRow_116 : decode cX4_inRow 116 = .ok (.iload 4, 2) := by decide +kernel
theorem dX4_inRow_118 : decode cX4_inRow 118 = .ok (.iload 8, 2) := by decide +kernel
theorem dX4_inRow_120 : decode cX4_inRow 120 = .ok (.imul, 1) := by decide +kernel
theorem dX4_inRow_121 : decode cX4_inRow 121 = .ok (.iload 5, 2) := by decide +kernel
theorem dX4_inRow_123 : decode cX4_inRow 123 = .ok (.iload 7, 2) := by decide +kernel
theorem dX4_inRow_125 : decode cX4_inRow 125 = .ok (.imul, 1) := by decide +kernel
theorem dX4_inRow_126 : decode cX4_inRow 126 = .ok (.if_icmp .ne 7, 3) := by decide +kernel
theorem dX4_inRow_129 : decode cX4_inRow 129 = .ok (.iconst 1, 1) := by decide +kernel
theorem dX4_inRow_130 : decode cX4_inRow 130 = .ok (.goto 4, 3) := by decide +kernel
theorem dX4_inRow_133 : decode cX4_inRow 133 = .ok (.iconst 0, 1) := by decide +kernel
theorem dX4_inRow_134 : decode cX4_inRow 134 = .ok (.ireturn, 1) := by decide +kernel
theorem dX4_isMoved_0 : decode cX4_isMoved 0 = .ok (.aload_n 0, 1) := by decide +kernel
theorem dX4_isMoved_1 : decode cX4_isMoved 1 = .ok (.getfield 27, 3) := by decide +kernel
theorem dX4_isMoved_4 : decode cX4_isMoved 4 = .ok (.aload_n 1, 1) := by decide +kernel
theorem dX4_isMoved_5 : decode cX4_isMoved 5 = .ok (.getfield 27, 3) := by decide +kernel
theorem dX4_isMoved_8 : decode cX4_isMoved 8 = .ok (.if_icmp .ne 10, 3) := by decide +kernel
theorem dX4_isMoved_11 : decode cX4_isMoved 11 = .ok (.aload_n 0, 1) := by decide +kernel
theorem dX4_isMoved_12 : decode cX4_isMoved 12 = .ok (.getfield 27, 3) := by decide +kernel
theorem dX4_isMoved_15 : decode cX4_isMoved 15 = .ok (.ifCond .ne 5, 3) := by decide +kernel
theorem dX4_isMoved_18 : decode cX4_isMoved 18 = .ok (.iconst 0, 1) := by decide +kernel
theorem dX4_isMoved_19 : decode cX4_isMoved 19 = .ok (.ireturn, 1) := by decide +kernel
theorem dX4_isMoved_20 : decode cX4_isMoved 20 = .ok (.iconst 1, 1) := by decide +kernel
theorem dX4_isMoved_21 : decode cX4_isMoved 21 = .ok (.istore_n 2, 1) := by decide +kernel
theorem dX4_isMoved_22 : decode cX4_isMoved 22 = .ok (.iload_n 2, 1) := by decide +kernel
theorem dX4_isMoved_23 : decode cX4_isMoved 23 = .ok (.aload_n 0, 1) := by decide +kernel
theorem dX4_isMoved_24 : decode cX4_isMoved 24 = .ok (.getfield 27, 3) := by decide +kernel
theorem dX4_isMoved_27 : decode cX4_isMoved 27 = .ok (.if_icmp .ge 98, 3) := by decide +kernel
theorem dX4_isMoved_30 : decode cX4_isMoved 30 = .ok (.aload_n 0, 1) := by decide +kernel
theorem dX4_isMoved_31 : decode cX4_isMoved 31 = .ok (.getfield 15, 3) := by decide +kernel
theorem dX4_isMoved_34 : decode cX4_isMoved 34 = .ok (.iload_n 2, 1) := by decide +kernel
theorem dX4_isMoved_35 : decode cX4_isMoved 35 = .ok (.iaload, 1) := by decide +kernel
theorem dX4_isMoved_36 : decode cX4_isMoved 36 = .ok (.aload_n 1, 1) := by decide +kernel
theorem dX4_isMoved_37 : decode cX4_isMoved 37 = .ok (.getfield 15, 3) := by decide +kernel
theorem dX4_isMoved_40 : decode cX4_isMoved 40 = .ok (.iload_n 2, 1) := by decide +kernel
theorem dX4_isMoved_41 : decode cX4_isMoved 41 = .ok (.iaload, 1) := by decide +kernel
theorem dX4_isMoved_42 : decode cX4_isMoved 42 = .ok (.isub, 1) := by decide +kernel
theorem dX4_isMoved_43 : decode cX4_isMoved 43 = .ok (.aload_n 0, 1) := by decide +kernel
theorem dX4_isMoved_44 : decode cX4_isMoved 44 = .ok (.getfield 15, 3) := by decide +kernel
theorem dX4_isMoved_47 : decode cX4_isMoved 47 = .ok (.iconst 0, 1) := by decide +kernel
theorem dX4_isMoved_48 : decode cX4_isMoved 48 = .ok (.iaload, 1) := by decide +kernel
theorem dX4_isMoved_49 : decode cX4_isMoved 49 = .ok (.aload_n 1, 1) := by decide +kernel
theorem dX4_isMoved_50 : decode cX4_isMoved 50 = .ok (.getfield 15, 3) := by decide +kernel
theorem dX4_isMoved_53 : decode cX4_isMoved 53 = .ok (.iconst 0, 1) := by decide +kernel
theorem dX4_isMoved_54 : decode cX4_isMoved 54 = .ok (.iaload, 1) := by decide +kernel
theorem dX4_isMoved_55 : decode cX4_isMoved 55 = .ok (.isub, 1) := by decide +kernel
theorem dX4_isMoved_56 : decode cX4_isMoved 56 = .ok (.if_icmp .ne 61, 3) := by decide +kernel
theorem dX4_isMoved_59 : decode cX4_isMoved 59 = .ok (.aload_n 0, 1) := by decide +kernel
theorem dX4_isMoved_60 : decode cX4_isMoved 60 = .ok (.getfield 21, 3) := by decide +kernel
theorem dX4_isMoved_63 : decode cX4_isMoved 63 = .ok (.iload_n 2, 1) := by decide +kernel
theorem dX4_isMoved_64 : decode cX4_isMoved 64 = .ok (.iaload, 1) := by decide +kernel
theorem dX4_isMoved_65 : decode cX4_isMoved 65 = .ok (.aload_n 1, 1) := by decide +kernel
theorem dX4_isMoved_66 : decode cX4_isMoved 66 = .ok (.getfield 21, 3) := by decide +kernel
theorem dX4_isMoved_69 : decode cX4_isMoved 69 = .ok (.iload_n 2, 1) := by decide +kernel
theorem dX4_isMoved_70 : decode cX4_isMoved 70 = .ok (.iaload, 1) := by decide +kernel
theorem dX4_isMoved_71 : decode cX4_isMoved 71 = .ok (.isub, 1) := by decide +kernel
theorem dX4_isMoved_72 : decode cX4_isMoved 72 = .ok (.aload_n 0, 1) := by decide +kernel
theorem dX4_isMoved_73 : decode cX4_isMoved 73 = .ok (.getfield 21, 3) := by decide +kernel
theorem dX4_isMoved_76 : decode cX4_isMoved 76 = .ok (.iconst 0, 1) := by decide +kernel
theorem dX4_isMoved_77 : decode cX4_isMoved 77 = .ok (.iaload, 1) := by decide +kernel
theorem dX4_isMoved_78 : decode cX4_isMoved 78 = .ok (.aload_n 1, 1) := by decide +kernel
theorem dX4_isMoved_79 : decode cX4_isMoved 79 = .ok (.getfield 21, 3) := by decide +kernel
theorem dX4_isMoved_82 : decode cX4_isMoved 82 = .ok (.iconst 0, 1) := by decide +kernel
theorem dX4_isMoved_83 : decode cX4_isMoved 83 = .ok (.iaload, 1) := by decide +kernel
theorem dX4_isMoved_84 : decode cX4_isMoved 84 = .ok (.isub, 1) := by decide +kernel
theorem dX4_isMoved_85 : decode cX4_isMoved 85 = .ok (.if_icmp .ne 32, 3) := by decide +kernel
theorem dX4_isMoved_88 : decode cX4_isMoved 88 = .ok (.aload_n 0, 1) := by decide +kernel
theorem dX4_isMoved_89 : decode cX4_isMoved 89 = .ok (.getfield 24, 3) := by decide +kernel
theorem dX4_isMoved_92 : decode cX4_isMoved 92 = .ok (.iload_n 2, 1) := by decide +kernel
theorem dX4_isMoved_93 : decode cX4_isMoved 93 = .ok (.iaload, 1) := by decide +kernel
theorem dX4_isMoved_94 : decode cX4_isMoved 94 = .ok (.aload_n 1, 1) := by decide +kernel
theorem dX4_isMoved_95 : decode cX4_isMoved 95 = .ok (.getfield 24, 3) := by decide +kernel
theorem dX4_isMoved_98 : decode cX4_isMoved 98 = .ok (.iload_n 2, 1) := by decide +kernel
theorem dX4_isMoved_99 : decode cX4_isMoved 99 = .ok (.iaload, 1) := by decide +kernel
theorem dX4_isMoved_100 : decode cX4_isMoved 100 = .ok (.isub, 1) := by decide +kernel
theorem dX4_isMoved_101 : decode cX4_isMoved 101 = .ok (.aload_n 0, 1) := by decide +kernel
theorem dX4_isMoved_102 : decode cX4_isMoved 102 = .ok (.getfield 24, 3) := by decide +kernel
theorem dX4_isMoved_105 : decode cX4_isMoved 105 = .ok (.iconst 0, 1) := by decide +kernel
theorem dX4_isMoved_106 : decode cX4_isMoved 106 = .ok (.iaload, 1) := by decide +kernel
theorem dX4_isMoved_107 : decode cX4_isMoved 107 = .ok (.aload_n 1, 1) := by decide +kernel
theorem dX4_isMoved_108 : decode cX4_isMoved 108 = .ok (.getfield 24, 3) := by decide +kernel
theorem dX4_isMoved_111 : decode cX4_isMoved 111 = .ok (.iconst 0, 1) := by decide +kernel
theorem dX4_isMoved_112 : decode cX4_isMoved 112 = .ok (.iaload, 1) := by decide +kernel
theorem dX4_isMoved_113 : decode cX4_isMoved 113 = .ok (.isub, 1) := by decide +kernel
theorem dX4_isMoved_114 : decode cX4_isMoved 114 = .ok (.if_icmp .eq 5, 3) := by decide +kernel
theorem dX4_isMoved_117 : decode cX4_isMoved 117 = .ok (.iconst 0, 1) := by decide +kernel
theorem dX4_isMoved_118 : decode cX4_isMoved 118 = .ok (.ireturn, 1) := by decide +kernel
theorem dX4_isMoved_119 : decode cX4_isMoved 119 = .ok (.iinc 2 1, 3) := by decide +kernel
theorem dX4_isMoved_122 : decode cX4_isMoved 122 = .ok (.goto (-100), 3) := by decide +kernel
theorem dX4_isMoved_125 : decode cX4_isMoved 125 = .ok (.iconst 1, 1) := by decide +kernel
theorem dX4_isMoved_126 : decode cX4_isMoved 126 = .ok (.ireturn, 1) := by decide +kernel
theorem dX5_init_0 : decode cX5_init 0 = .ok (.aload_n 0, 1) := by decide +kernel
theorem dX5_init_1 : decode cX5_init 1 = .ok (.invokespecial 3, 3) := by decide +kernel
theorem dX5_init_4 : decode cX5_init 4 = .ok (.aload_n 0, 1) := by decide +kernel
theorem dX5_init_5 : decode cX5_init 5 = .ok (.bipush 36, 2) := by decide +kernel
theorem dX5_init_7 : decode cX5_init 7 = .ok (.newarray .long, 2) := by decide +kernel
theorem dX5_init_9 : decode cX5_init 9 = .ok (.putfield 9, 3) := by decide +kernel
theorem dX5_init_12 : decode cX5_init 12 = .ok (.aload_n 0, 1) := by decide +kernel
theorem dX5_init_13 : decode cX5_init 13 = .ok (.iconst (-1), 1) := by decide +kernel
theorem dX5_init_14 : decode cX5_init 14 = .ok (.putfield 15, 3) := by decide +kernel
theorem dX5_init_17 : decode cX5_init 17 = .ok (.return_, 1) := by decide +kernel
theorem dX5_renew_0 : decode cX5_renew 0 = .ok (.aload_n 0, 1) := by decide +kernel
theorem dX5_renew_1 : decode cX5_renew 1 = .ok (.iload_n 1, 1) := by decide +kernel
theorem dX5_renew_2 : decode cX5_renew 2 = .ok (.putfield 15, 3) := by decide +kernel
theorem dX5_renew_5 : decode cX5_renew 5 = .ok (.aload_n 0, 1) := by decide +kernel
theorem dX5_renew_6 : decode cX5_renew 6 = .ok (.iload_n 2, 1) := by decide +kernel
theorem dX5_renew_7 : decode cX5_renew 7 = .ok (.putfield 19, 3) := by decide +kernel
theorem dX5_renew_10 : decode cX5_renew 10 = .ok (.iconst 0, 1) := by decide +kernel
theorem dX5_renew_11 : decode cX5_renew 11 = .ok (.istore_n 3, 1) := by decide +kernel
theorem dX5_renew_12 : decode cX5_renew 12 = .ok (.iload_n 3, 1) := by decide +kernel
theorem dX5_renew_13 : decode cX5_renew 13 = .ok (.bipush 36, 2) := by decide +kernel
theorem dX5_renew_15 : decode cX5_renew 15 = .ok (.if_icmp .ge 16, 3) := by decide +kernel
theorem dX5_renew_18 : decode cX5_renew 18 = .ok (.aload_n 0, 1) := by decide +kernel
theorem dX5_renew_19 : decode cX5_renew 19 = .ok (.getfield 9, 3) := by decide +kernel
theorem dX5_renew_22 : decode cX5_renew 22 = .ok (.iload_n 3, 1) := by decide +kernel
theorem dX5_renew_23 : decode cX5_renew 23 = .ok (.lconst 0, 1) := by decide +kernel
theorem dX5_renew_24 : decode cX5_renew 24 = .ok (.lastore, 1) := by decide +kernel
theorem dX5_renew_25 : decode cX5_renew 25 = .ok (.iinc 3 1, 3) := by decide +kernel
theorem dX5_renew_28 : decode cX5_renew 28 = .ok (.goto (-16), 3) := by decide +kernel
theorem dX5_renew_31 : decode cX5_renew 31 = .ok (.return_, 1) := by decide +kernel
theorem dX5_put_0 : decode cX5_put 0 = .ok (.iload_n 1, 1) := by decide +kernel
theorem dX5_put_1 : decode cX5_put 1 = .ok (.ifCond .lt 31, 3) := by decide +kernel
theorem dX5_put_4 : decode cX5_put 4 = .ok (.iload_n 1, 1) := by decide +kernel
theorem dX5_put_5 : decode cX5_put 5 = .ok (.aload_n 0, 1) := by decide +kernel
theorem dX5_put_6 : decode cX5_put 6 = .ok (.getfield 19, 3) := by decide +kernel
theorem dX5_put_9 : decode cX5_put 9 = .ok (.if_icmp .ge 23, 3) := by decide +kernel
theorem dX5_put_12 : decode cX5_put 12 = .ok (.aload_n 0, 1) := by decide +kernel
theorem dX5_put_13 : decode cX5_put 13 = .ok (.getfield 9, 3) := by decide +kernel
theorem dX5_put_16 : decode cX5_put 16 = .ok (.iload_n 1, 1) := by decide +kernel
theorem dX5_put_17 : decode cX5_put 17 = .ok (.aload_n 0, 1) := by decide +kernel
theorem dX5_put_18 : decode cX5_put 18 = .ok (.getfield 15, 3) := by decide +kernel
theorem dX5_put_21 : decode cX5_put 21 = .ok (.ifCond .ne 9, 3) := by decide +kernel
theorem dX5_put_24 : decode cX5_put 24 = .ok (.lload_n 2, 1) := by decide +kernel
theorem dX5_put_25 : decode cX5_put 25 = .ok (.l2i, 1) := by decide +kernel
theorem dX5_put_26 : decode cX5_put 26 = .ok (.i2l, 1) := by decide +kernel
theorem dX5_put_27 : decode cX5_put 27 = .ok (.goto 4, 3) := by decide +kernel
theorem dX5_put_30 : decode cX5_put 30 = .ok (.lload_n 2, 1) := by decide +kernel
theorem dX5_put_31 : decode cX5_put 31 = .ok (.lastore, 1) := by decide +kernel
theorem dX5_put_32 : decode cX5_put 32 = .ok (.return_, 1) := by decide +kernel
theorem dX5_cell_0 : decode cX5_cell 0 = .ok (.iload_n 1, 1) := by decide +kernel
theorem dX5_cell_1 : decode cX5_cell 1 = .ok (.ifCond .lt 20, 3) := by decide +kernel
theorem dX5_cell_4 : decode cX5_cell 4 = .ok (.iload_n 1, 1) := by decide +kernel
theorem dX5_cell_5 : decode cX5_cell 5 = .ok (.aload_n 0, 1) := by decide +kernel
theorem dX5_cell_6 : decode cX5_cell 6 = .ok (.getfield 19, 3) := by decide +kernel
theorem dX5_cell_9 : decode cX5_cell 9 = .ok (.if_icmp .ge 12, 3) := by decide +kernel
theorem dX5_cell_12 : decode cX5_cell 12 = .ok (.aload_n 0, 1) := by decide +kernel
theorem dX5_cell_13 : decode cX5_cell 13 = .ok (.getfield 9, 3) := by decide +kernel
theorem dX5_cell_16 : decode cX5_cell 16 = .ok (.iload_n 1, 1) := by decide +kernel
theorem dX5_cell_17 : decode cX5_cell 17 = .ok (.laload, 1) := by decide +kernel
theorem dX5_cell_18 : decode cX5_cell 18 = .ok (.goto 4, 3) := by decide +kernel
theorem dX5_cell_21 : decode cX5_cell 21 = .ok (.lconst 0, 1) := by decide +kernel
theorem dX5_cell_22 : decode cX5_cell 22 = .ok (.lreturn, 1) := by decide +kernel
theorem dX6_init_0 : decode cX6_init 0 = .ok (.aload_n 0, 1) := by decide +kernel
theorem dX6_init_1 : decode cX6_init 1 = .ok (.invokespecial 1, 3) := by decide +kernel
theorem dX6_init_4 : decode cX6_init 4 = .ok (.return_, 1) := by decide +kernel
theorem dX6_lead_0 : decode cX6_lead 0 = .ok (.aload_n 0, 1) := by decide +kernel
theorem dX6_lead_1 : decode cX6_lead 1 = .ok (.aload_n 1, 1) := by decide +kernel
theorem dX6_lead_2 : decode cX6_lead 2 = .ok (.getfield 7, 3) := by decide +kernel
theorem dX6_lead_5 : decode cX6_lead 5 = .ok (.iload_n 3, 1) := by decide +kernel
theorem dX6_lead_6 : decode cX6_lead 6 = .ok (.iaload, 1) := by decide +kernel
theorem dX6_lead_7 : decode cX6_lead 7 = .ok (.aload_n 1, 1) := by decide +kernel
theorem dX6_lead_8 : decode cX6_lead 8 = .ok (.getfield 7, 3) := by decide +kernel
theorem dX6_lead_11 : decode cX6_lead 11 = .ok (.iload_n 2, 1) := by decide +kernel
theorem dX6_lead_12 : decode cX6_lead 12 = .ok (.iaload, 1) := by decide +kernel
theorem dX6_lead_13 : decode cX6_lead 13 = .ok (.isub, 1) := by decide +kernel
theorem dX6_lead_14 : decode cX6_lead 14 = .ok (.putfield 13, 3) := by decide +kernel
theorem dX6_lead_17 : decode cX6_lead 17 = .ok (.aload_n 0, 1) := by decide +kernel
theorem dX6_lead_18 : decode cX6_lead 18 = .ok (.aload_n 1, 1) := by decide +kernel
theorem dX6_lead_19 : decode cX6_lead 19 = .ok (.getfield 18, 3) := by decide +kernel
theorem dX6_lead_22 : decode cX6_lead 22 = .ok (.iload_n 3, 1) := by decide +kernel
theorem dX6_lead_23 : decode cX6_lead 23 = .ok (.iaload, 1) := by decide +kernel
theorem dX6_lead_24 : decode cX6_lead 24 = .ok (.aload_n 1, 1) := by decide +kernel
theorem dX6_lead_25 : decode cX6_lead 25 = .ok (.getfield 18, 3) := by decide +kernel
theorem dX6_lead_28 : decode cX6_lead 28 = .ok (.iload_n 2, 1) := by decide +kernel
theorem dX6_lead_29 : decode cX6_lead 29 = .ok (.iaload, 1) := by decide +kernel
theorem dX6_lead_30 : decode cX6_lead 30 = .ok (.isub, 1) := by decide +kernel
theorem dX6_lead_31 : decode cX6_lead 31 = .ok (.putfield 21, 3) := by decide +kernel
theorem dX6_lead_34 : decode cX6_lead 34 = .ok (.aload_n 0, 1) := by decide +kernel
theorem dX6_lead_35 : decode cX6_lead 35 = .ok (.aload_n 1, 1) := by decide +kernel
theorem dX6_lead_36 : decode cX6_lead 36 = .ok (.getfield 23, 3) := by decide +kernel
theorem dX6_lead_39 : decode cX6_lead 39 = .ok (.iload_n 3, 1) := by decide +kernel
theorem dX6_lead_40 : decode cX6_lead 40 = .ok (.iaload, 1) := by decide +kernel
theorem dX6_lead_41 : decode cX6_lead 41 = .ok (.aload_n 1, 1) := by decide +kernel
theorem dX6_lead_42 : decode cX6_lead 42 = .ok (.getfield 23, 3) := by decide +kernel
theorem dX6_lead_45 : decode cX6_lead 45 = .ok (.iload_n 2, 1) := by decide +kernel
theorem dX6_lead_46 : decode cX6_lead 46 = .ok (.iaload, 1) := by decide +kernel
theorem dX6_lead_47 : decode cX6_lead 47 = .ok (.isub, 1) := by decide +kernel
theorem dX6_lead_48 : decode cX6_lead 48 = .ok (.putfield 26, 3) := by decide +kernel
theorem dX6_lead_51 : decode cX6_lead 51 = .ok (.return_, 1) := by decide +kernel
theorem dX6_square_0 : decode cX6_square 0 = .ok (.aload_n 0, 1) := by decide +kernel
theorem dX6_square_1 : decode cX6_square 1 = .ok (.aload_n 1, 1) := by decide +kernel
theorem dX6_square_2 : decode cX6_square 2 = .ok (.getfield 21, 3) := by decide +kernel
theorem dX6_square_5 : decode cX6_square 5 = .ok (.aload_n 2, 1) := by decide +kernel
theorem dX6_square_6 : decode cX6_square 6 = .ok (.getfield 26, 3) := by decide +kernel
theorem dX6_square_9 : decode cX6_square 9 = .ok (.imul, 1) := by decide +kernel
theorem dX6_square_10 : decode cX6_square 10 = .ok (.aload_n 1, 1) := by decide +kernel
theorem dX6_square_11 : decode cX6_square 11 = .ok (.getfield 26, 3) := by decide +kernel
theorem dX6_square_14 : decode cX6_square 14 = .ok (.aload_n 2, 1) := by decide +kernel
theorem dX6_square_15 : decode cX6_square 15 = .ok (.getfield 21, 3) := by decide +kernel
theorem dX6_square_18 : decode cX6_square 18 = .ok (.imul, 1) := by decide +kernel
theorem dX6_square_19 : decode cX6_square 19 = .ok (.isub, 1) := by decide +kernel
theorem dX6_square_20 : decode cX6_square 20 = .ok (.putfield 13, 3) := by decide +kernel
theorem dX6_square_23 : decode cX6_square 23 = .ok (.aload_n 0, 1) := by decide +kernel
theorem dX6_square_24 : decode cX6_square 24 = .ok (.aload_n 1, 1) := by decide +kernel
theorem dX6_square_25 : decode cX6_square 25 = .ok (.getfield 26, 3) := by decide +kernel
theorem dX6_square_28 : decode cX6_square 28 = .ok (.aload_n 2, 1) := by decide +kernel
theorem dX6_square_29 : decode cX6_square 29 = .ok (.getfield 13, 3) := by decide +kernel
theorem dX6_square_32 : decode cX6_square 32 = .ok (.imul, 1) := by decide +kernel
theorem dX6_square_33 : decode cX6_square 33 = .ok (.aload_n 1, 1) := by decide +kernel
theorem dX6_square_34 : decode cX6_square 34 = .ok (.getfield 13, 3) := by decide +kernel
theorem dX6_square_37 : decode cX6_square 37 = .ok (.aload_n 2, 1) := by decide +kernel
theorem dX6_square_38 : decode cX6_square 38 = .ok (.getfield 26, 3) := by decide +kernel
theorem dX6_square_41 : decode cX6_square 41 = .ok (.imul, 1) := by decide +kernel
theorem dX6_square_42 : decode cX6_square 42 = .ok (.isub, 1) := by decide +kernel
theorem dX6_square_43 : decode cX6_square 43 = .ok (.putfield 21, 3) := by decide +kernel
theorem dX6_square_46 : decode cX6_square 46 = .ok (.aload_n 0, 1) := by decide +kernel
theorem dX6_square_47 : decode cX6_square 47 = .ok (.aload_n 1, 1) := by decide +kernel
theorem dX6_square_48 : decode cX6_square 48 = .ok (.getfield 13, 3) := by decide +kernel
theorem dX6_square_51 : decode cX6_square 51 = .ok (.aload_n 2, 1) := by decide +kernel
theorem dX6_square_52 : decode cX6_square 52 = .ok (.getfield 21, 3) := by decide +kernel
theorem dX6_square_55 : decode cX6_square 55 = .ok (.imul, 1) := by decide +kernel
theorem dX6_square_56 : decode cX6_square 56 = .ok (.aload_n 1, 1) := by decide +kernel
theorem dX6_square_57 : decode cX6_square 57 = .ok (.getfield 21, 3) := by decide +kernel
theorem dX6_square_60 : decode cX6_square 60 = .ok (.aload_n 2, 1) := by decide +kernel
theorem dX6_square_61 : decode cX6_square 61 = .ok (.getfield 13, 3) := by decide +kernel
theorem dX6_square_64 : decode cX6_square 64 = .ok (.imul, 1) := by decide +kernel
theorem dX6_square_65 : decode cX6_square 65 = .ok (.isub, 1) := by decide +kernel
theorem dX6_square_66 : decode cX6_square 66 = .ok (.putfield 26, 3) := by decide +kernel
theorem dX6_square_69 : decode cX6_square 69 = .ok (.return_, 1) := by decide +kernel
theorem dX6_isNought_0 : decode cX6_isNought 0 = .ok (.aload_n 0, 1) := by decide +kernel
theorem dX6_isNought_1 : decode cX6_isNought 1 = .ok (.getfield 13, 3) := by decide +kernel
theorem dX6_isNought_4 : decode cX6_isNought 4 = .ok (.ifCond .ne 21, 3) := by decide +kernel
theorem dX6_isNought_7 : decode cX6_isNought 7 = .ok (.aload_n 0, 1) := by decide +kernel
theorem dX6_isNought_8 : decode cX6_isNought 8 = .ok (.getfield 21, 3) := by decide +kernel
theorem dX6_isNought_11 : decode cX6_isNought 11 = .ok (.ifCond .ne 14, 3) := by decide +kernel
theorem dX6_isNought_14 : decode cX6_isNought 14 = .ok (.aload_n 0, 1) := by decide +kernel
theorem dX6_isNought_15 : decode cX6_isNought 15 = .ok (.getfield 26, 3) := by decide +kernel
theorem dX6_isNought_18 : decode cX6_isNought 18 = .ok (.ifCond .ne 7, 3) := by decide +kernel
theorem dX6_isNought_21 : decode cX6_isNought 21 = .ok (.iconst 1, 1) := by decide +kernel
theorem dX6_isNought_22 : decode cX6_isNought 22 = .ok (.goto 4, 3) := by decide +kernel
theorem dX6_isNought_25 : decode cX6_isNought 25 = .ok (.iconst 0, 1) := by decide +kernel
theorem dX6_isNought_26 : decode cX6_isNought 26 = .ok (.ireturn, 1) := by decide +kernel
theorem dX6_times_0 : decode cX6_times 0 = .ok (.aload_n 0, 1) := by decide +kernel
theorem dX6_times_1 : decode cX6_times 1 = .ok (.getfield 13, 3) := by decide +kernel
theorem dX6_times_4 : decode cX6_times 4 = .ok (.aload_n 1, 1) := by decide +kernel
theorem dX6_times_5 : decode cX6_times 5 = .ok (.getfield 13, 3) := by decide +kernel
theorem dX6_times_8 : decode cX6_times 8 = .ok (.imul, 1) := by decide +kernel
theorem dX6_times_9 : decode cX6_times 9 = .ok (.aload_n 0, 1) := by decide +kernel
theorem dX6_times_10 : decode cX6_times 10 = .ok (.getfield 21, 3) := by decide +kernel
theorem dX6_times_13 : decode cX6_times 13 = .ok (.aload_n 1, 1) := by decide +kernel
theorem dX6_times_14 : decode cX6_times 14 = .ok (.getfield 21, 3) := by decide +kernel
theorem dX6_times_17 : decode cX6_times 17 = .ok (.imul, 1) := by decide +kernel
theorem dX6_times_18 : decode cX6_times 18 = .ok (.iadd, 1) := by decide +kernel
theorem dX6_times_19 : decode cX6_times 19 = .ok (.aload_n 0, 1) := by decide +kernel
theorem dX6_times_20 : decode cX6_times 20 = .ok (.getfield 26, 3) := by decide +kernel
theorem dX6_times_23 : decode cX6_times 23 = .ok (.aload_n 1, 1) := by decide +kernel
theorem dX6_times_24 : decode cX6_times 24 = .ok (.getfield 26, 3) := by decide +kernel
theorem dX6_times_27 : decode cX6_times 27 = .ok (.imul, 1) := by decide +kernel
theorem dX6_times_28 : decode cX6_times 28 = .ok (.iadd, 1) := by decide +kernel
theorem dX6_times_29 : decode cX6_times 29 = .ok (.ireturn, 1) := by decide +kernel
theorem dX6_at_0 : decode cX6_at 0 = .ok (.aload_n 0, 1) := by decide +kernel
theorem dX6_at_1 : decode cX6_at 1 = .ok (.getfield 13, 3) := by decide +kernel
theorem dX6_at_4 : decode cX6_at 4 = .ok (.aload_n 1, 1) := by decide +kernel
theorem dX6_at_5 : decode cX6_at 5 = .ok (.getfield 7, 3) := by decide +kernel
theorem dX6_at_8 : decode cX6_at 8 = .ok (.iload_n 2, 1) := by decide +kernel
theorem dX6_at_9 : decode cX6_at 9 = .ok (.iaload, 1) := by decide +kernel
theorem dX6_at_10 : decode cX6_at 10 = .ok (.imul, 1) := by decide +kernel
theorem dX6_at_11 : decode cX6_at 11 = .ok (.aload_n 0, 1) := by decide +kernel
theorem dX6_at_12 : decode cX6_at 12 = .ok (.getfield 21, 3) := by decide +kernel
theorem dX6_at_15 : decode cX6_at 15 = .ok (.aload_n 1, 1) := by decide +kernel
theorem dX6_at_16 : decode cX6_at 16 = .ok (.getfield 18, 3) := by decide +kernel
theorem dX6_at_19 : decode cX6_at 19 = .ok (.iload_n 2, 1) := by decide +kernel
theorem dX6_at_20 : decode cX6_at 20 = .ok (.iaload, 1) := by decide +kernel
theorem dX6_at_21 : decode cX6_at 21 = .ok (.imul, 1) := by decide +kernel
theorem dX6_at_22 : decode cX6_at 22 = .ok (.iadd, 1) := by decide +kernel
theorem dX6_at_23 : decode cX6_at 23 = .ok (.aload_n 0, 1) := by decide +kernel
theorem dX6_at_24 : decode cX6_at 24 = .ok (.getfield 26, 3) := by decide +kernel
theorem dX6_at_27 : decode cX6_at 27 = .ok (.aload_n 1, 1) := by decide +kernel
theorem dX6_at_28 : decode cX6_at 28 = .ok (.getfield 23, 3) := by decide +kernel
theorem dX6_at_31 : decode cX6_at 31 = .ok (.iload_n 2, 1) := by decide +kernel
theorem dX6_at_32 : decode cX6_at 32 = .ok (.iaload, 1) := by decide +kernel
theorem dX6_at_33 : decode cX6_at 33 = .ok (.imul, 1) := by decide +kernel
theorem dX6_at_34 : decode cX6_at 34 = .ok (.iadd, 1) := by decide +kernel
theorem dX6_at_35 : decode cX6_at 35 = .ok (.ireturn, 1) := by decide +kernel
theorem dX6_flip_0 : decode cX6_flip 0 = .ok (.aload_n 0, 1) := by decide +kernel
theorem dX6_flip_1 : decode cX6_flip 1 = .ok (.aload_n 0, 1) := by decide +kernel
theorem dX6_flip_2 : decode cX6_flip 2 = .ok (.getfield 13, 3) := by decide +kernel
theorem dX6_flip_5 : decode cX6_flip 5 = .ok (.ineg, 1) := by decide +kernel
theorem dX6_flip_6 : decode cX6_flip 6 = .ok (.putfield 13, 3) := by decide +kernel
theorem dX6_flip_9 : decode cX6_flip 9 = .ok (.aload_n 0, 1) := by decide +kernel
theorem dX6_flip_10 : decode cX6_flip 10 = .ok (.aload_n 0, 1) := by decide +kernel
theorem dX6_flip_11 : decode cX6_flip 11 = .ok (.getfield 21, 3) := by decide +kernel
theorem dX6_flip_14 : decode cX6_flip 14 = .ok (.ineg, 1) := by decide +kernel
theorem dX6_flip_15 : decode cX6_flip 15 = .ok (.putfield 21, 3) := by decide +kernel
theorem dX6_flip_18 : decode cX6_flip 18 = .ok (.aload_n 0, 1) := by decide +kernel
theorem dX6_flip_19 : decode cX6_flip 19 = .ok (.aload_n 0, 1) := by decide +kernel
theorem dX6_flip_20 : decode cX6_flip 20 = .ok (.getfield 26, 3) := by decide +kernel
theorem dX6_flip_23 : decode cX6_flip 23 = .ok (.ineg, 1) := by decide +kernel
theorem dX6_flip_24 : decode cX6_flip 24 = .ok (.putfield 26, 3) := by decide +kernel
theorem dX6_flip_27 : decode cX6_flip 27 = .ok (.return_, 1) := by decide +kernel
set_option maxRecDepth 20000 in
theorem ggX6_shorten_X6_commonDivisor : GoodIn wsX6_shorten wsX6_commonDivisor := goodIn_r _ [11] (by decide +kernel) (by decide +kernel)
set_option maxRecDepth 20000 in
theorem gX6_shorten_X6_commonDivisor : GoodIn wsX6_shorten (va_wsS RX6 34 yX6_commonDivisor wsX6_commonDivisor) := goodIn_app (goodIn_of _ (by decide +kernel)) ggX6_shorten_X6_commonDivisor
theorem dX6_shorten_0 : decode cX6_shorten 0 = .ok (.aload_n 0, 1) := by decide +kernel
theorem dX6_shorten_1 : decode cX6_shorten 1 = .ok (.getfield 13, 3) := by decide +kernel
theorem dX6_shorten_4 : decode cX6_shorten 4 = .ok (.invokestatic 28, 3) := by decide +kernel
theorem dX6_shorten_7 : decode cX6_shorten 7 = .ok (.aload_n 0, 1) := by decide +kernel
theorem dX6_shorten_8 : decode cX6_shorten 8 = .ok (.getfield 21, 3) := by decide +kernel
theorem dX6_shorten_11 : decode cX6_shorten 11 = .ok (.invokestatic 28, 3) := by decide +kernel
theorem dX6_shorten_14 : decode cX6_shorten 14 = .ok (.invokestatic 34, 3) := by decide +kernel
theorem dX6_shorten_17 : decode cX6_shorten 17 = .ok (.aload_n 0, 1) := by decide +kernel
theorem dX6_shorten_18 : decode cX6_shorten 18 = .ok (.getfield 26, 3) := by decide +kernel
theorem dX6_shorten_21 : decode cX6_shorten 21 = .ok (.invokestatic 28, 3) := by decide +kernel
theorem dX6_shorten_24 : decode cX6_shorten 24 = .ok (.invokestatic 34, 3) := by decide +kernel
theorem dX6_shorten_27 : decode cX6_shorten 27 = .ok (.istore_n 1, 1) := by decide +kernel
theorem dX6_shorten_28 : decode cX6_shorten 28 = .ok (.iload_n 1, 1) := by decide +kernel
theorem dX6_shorten_29 : decode cX6_shorten 29 = .ok (.iconst 1, 1) := by decide +kernel
theorem dX6_shorten_30 : decode cX6_shorten 30 = .ok (.if_icmp .le 33, 3) := by decide +kernel
theorem dX6_shorten_33 : decode cX6_shorten 33 = .ok (.aload_n 0, 1) := by decide +kernel
theorem dX6_shorten_34 : decode cX6_shorten 34 = .ok (.dup, 1) := by decide +kernel
theorem dX6_shorten_35 : decode cX6_shorten 35 = .ok (.getfield 13, 3) := by decide +kernel
theorem dX6_shorten_38 : decode cX6_shorten 38 = .ok (.iload_n 1, 1) := by decide +kernel
theorem dX6_shorten_39 : decode cX6_shorten 39 = .ok (.idiv, 1) := by decide +kernel
theorem dX6_shorten_40 : decode cX6_shorten 40 = .ok (.putfield 13, 3) := by decide +kernel
theorem dX6_shorten_43 : decode cX6_shorten 43 = .ok (.aload_n 0, 1) := by decide +kernel
theorem dX6_shorten_44 : decode cX6_shorten 44 = .ok (.dup, 1) := by decide +kernel
theorem dX6_shorten_45 : decode cX6_shorten 45 = .ok (.getfield 21, 3) := by decide +kernel
theorem dX6_shorten_48 : decode cX6_shorten 48 = .ok (.iload_n 1, 1) := by decide +kernel
theorem dX6_shorten_49 : decode cX6_shorten 49 = .ok (.idiv, 1) := by decide +kernel
theorem dX6_shorten_50 : decode cX6_shorten 50 = .ok (.putfield 21, 3) := by decide +kernel
theorem dX6_shorten_53 : decode cX6_shorten 53 = .ok (.aload_n 0, 1) := by decide +kernel
theorem dX6_shorten_54 : decode cX6_shorten 54 = .ok (.dup, 1) := by decide +kernel
theorem dX6_shorten_55 : decode cX6_shorten 55 = .ok (.getfield 26, 3) := by decide +kernel
theorem dX6_shorten_58 : decode cX6_shorten 58 = .ok (.iload_n 1, 1) := by decide +kernel
theorem dX6_shorten_59 : decode cX6_shorten 59 = .ok (.idiv, 1) := by decide +kernel
theorem dX6_shorten_60 : decode cX6_shorten 60 = .ok (.putfield 26, 3) := by decide +kernel
theorem dX6_shorten_63 : decode cX6_shorten 63 = .ok (.return_, 1) := by decide +kernel
theorem dX6_commonDivisor_0 : decode cX6_commonDivisor 0 = .ok (.iload_n 0, 1) := by decide +kernel
theorem dX6_commonDivisor_1 : decode cX6_commonDivisor 1 = .ok (.istore_n 2, 1) := by decide +kernel
theorem dX6_commonDivisor_2 : decode cX6_commonDivisor 2 = .ok (.iload_n 1, 1) := by decide +kernel
theorem dX6_commonDivisor_3 : decode cX6_commonDivisor 3 = .ok (.istore_n 3, 1) := by decide +kernel
theorem dX6_commonDivisor_4 : decode cX6_commonDivisor 4 = .ok (.iconst 0, 1) := by decide +kernel
theorem dX6_commonDivisor_5 : decode cX6_commonDivisor 5 = .ok (.istore 4, 2) := by decide +kernel
theorem dX6_commonDivisor_7 : decode cX6_commonDivisor 7 = .ok (.iload 4, 2) := by decide +kernel
theorem dX6_commonDivisor_9 : decode cX6_commonDivisor 9 = .ok (.bipush 100, 2) := by decide +kernel
theorem dX6_commonDivisor_11 : decode cX6_commonDivisor 11 = .ok (.if_icmp .ge 23, 3) := by decide +kernel
theorem dX6_commonDivisor_14 : decode cX6_commonDivisor 14 = .ok (.iload_n 3, 1) := by decide +kernel
theorem dX6_commonDivisor_15 : decode cX6_commonDivisor 15 = .ok (.ifCond .eq 19, 3) := by decide +kernel
theorem dX6_commonDivisor_18 : decode cX6_commonDivisor 18 = .ok (.iload_n 2, 1) := by decide +kernel
theorem dX6_commonDivisor_19 : decode cX6_commonDivisor 19 = .ok (.iload_n 3, 1) := by decide +kernel
theorem dX6_commonDivisor_20 : decode cX6_commonDivisor 20 = .ok (.irem, 1) := by decide +kernel
theorem dX6_commonDivisor_21 : decode cX6_commonDivisor 21 = .ok (.istore 5, 2) := by decide +kernel
theorem dX6_commonDivisor_23 : decode cX6_commonDivisor 23 = .ok (.iload_n 3, 1) := by decide +kernel
theorem dX6_commonDivisor_24 : decode cX6_commonDivisor 24 = .ok (.istore_n 2, 1) := by decide +kernel
theorem dX6_commonDivisor_25 : decode cX6_commonDivisor 25 = .ok (.iload 5, 2) := by decide +kernel
theorem dX6_commonDivisor_27 : decode cX6_commonDivisor 27 = .ok (.istore_n 3, 1) := by decide +kernel
theorem dX6_commonDivisor_28 : decode cX6_commonDivisor 28 = .ok (.iinc 4 1, 3) := by decide +kernel
theorem dX6_commonDivisor_31 : decode cX6_commonDivisor 31 = .ok (.goto (-24), 3) := by decide +kernel
theorem dX6_commonDivisor_34 : decode cX6_commonDivisor 34 = .ok (.iload_n 2, 1) := by decide +kernel
theorem dX6_commonDivisor_35 : decode cX6_commonDivisor 35 = .ok (.ireturn, 1) := by decide +kernel
set_option maxRecDepth 20000 in
theorem ggX7_init_X7_pointsBelow : GoodIn wsX7_init wsX7_pointsBelow := goodIn_r _ [23, 9, 10, 24, 25, 26, 22, 27, 11, 28, 12, 29, 5, 30, 31, 6, 32, 33, 34, 4, 35, 36, 37, 38, 39, 40, 15, 41, 13, 14, 16, 42, 43, 44, 45, 46, 47, 48, 49, 50, 51, 52, 53, 54, 55, 56, 57, 58, 59, 60, 61, 62, 63, 64, 65, 66] (by decide +kernel) (by decide +kernel)
set_option maxRecDepth 20000 in
theorem gX7_init_X7_pointsBelow : GoodIn wsX7_init (wsV RX7 50 RX7 yX7_pointsBelow wsX7_pointsBelow) := goodIn_app (goodIn_of _ (by decide +kernel)) ggX7_init_X7_pointsBelow
theorem dX7_init_0 : decode cX7_init 0 = .ok (.aload_n 0, 1) := by decide +kernel
theorem dX7_init_1 : decode cX7_init 1 = .ok (.invokespecial 3, 3) := by decide +kernel
theorem dX7_init_4 : decode cX7_init 4 = .ok (.aload_n 0, 1) := by decide +kernel
theorem dX7_init_5 : decode cX7_init 5 = .ok (.aload_n 1, 1) := by decide +kernel
theorem dX7_init_6 : decode cX7_init 6 = .ok (.putfield 9, 3) := by decide +kernel
theorem dX7_init_9 : decode cX7_init 9 = .ok (.aload_n 0, 1) := by decide +kernel
theorem dX7_init_10 : decode cX7_init 10 = .ok (.aload_n 2, 1) := by decide +kernel
theorem dX7_init_11 : decode cX7_init 11 = .ok (.putfield 15, 3) := by decide +kernel
theorem dX7_init_14 : decode cX7_init 14 = .ok (.aload_n 0, 1) := by decide +kernel
theorem dX7_init_15 : decode cX7_init 15 = .ok (.iload 5, 2) := by decide +kernel
theorem dX7_init_17 : decode cX7_init 17 = .ok (.putfield 18, 3) := by decide +kernel
theorem dX7_init_20 : decode cX7_init 20 = .ok (.aload_n 0, 1) := by decide +kernel
theorem dX7_init_21 : decode cX7_init 21 = .ok (.aload_n 3, 1) := by decide +kernel
theorem dX7_init_22 : decode cX7_init 22 = .ok (.iconst 0, 1) := by decide +kernel
theorem dX7_init_23 : decode cX7_init 23 = .ok (.iaload, 1) := by decide +kernel
theorem dX7_init_24 : decode cX7_init 24 = .ok (.iload 5, 2) := by decide +kernel
theorem dX7_init_26 : decode cX7_init 26 = .ok (.imul, 1) := by decide +kernel
theorem dX7_init_27 : decode cX7_init 27 = .ok (.putfield 22, 3) := by decide +kernel
theorem dX7_init_30 : decode cX7_init 30 = .ok (.aload_n 0, 1) := by decide +kernel
theorem dX7_init_31 : decode cX7_init 31 = .ok (.aload 4, 2) := by decide +kernel
theorem dX7_init_33 : decode cX7_init 33 = .ok (.iconst 0, 1) := by decide +kernel
theorem dX7_init_34 : decode cX7_init 34 = .ok (.iaload, 1) := by decide +kernel
theorem dX7_init_35 : decode cX7_init 35 = .ok (.iload 5, 2) := by decide +kernel
theorem dX7_init_37 : decode cX7_init 37 = .ok (.imul, 1) := by decide +kernel
theorem dX7_init_38 : decode cX7_init 38 = .ok (.putfield 25, 3) := by decide +kernel
theorem dX7_init_41 : decode cX7_init 41 = .ok (.aload_n 0, 1) := by decide +kernel
theorem dX7_init_42 : decode cX7_init 42 = .ok (.aload_n 3, 1) := by decide +kernel
theorem dX7_init_43 : decode cX7_init 43 = .ok (.iconst 1, 1) := by decide +kernel
theorem dX7_init_44 : decode cX7_init 44 = .ok (.iaload, 1) := by decide +kernel
theorem dX7_init_45 : decode cX7_init 45 = .ok (.iload 5, 2) := by decide +kernel
theorem dX7_init_47 : decode cX7_init 47 = .ok (.imul, 1) := by decide +kernel
theorem dX7_init_48 : decode cX7_init 48 = .ok (.putfield 28, 3) := by decide +kernel
theorem dX7_init_51 : decode cX7_init 51 = .ok (.aload_n 0, 1) := by decide +kernel
theorem dX7_init_52 : decode cX7_init 52 = .ok (.aload 4, 2) := by decide +kernel
theorem dX7_init_54 : decode cX7_init 54 = .ok (.iconst 1, 1) := by decide +kernel
theorem dX7_init_55 : decode cX7_init 55 = .ok (.iaload, 1) := by decide +kernel
theorem dX7_init_56 : decode cX7_init 56 = .ok (.iload 5, 2) := by decide +kernel
theorem dX7_init_58 : decode cX7_init 58 = .ok (.imul, 1) := by decide +kernel
theorem dX7_init_59 : decode cX7_init 59 = .ok (.putfield 31, 3) := by decide +kernel
theorem dX7_init_62 : decode cX7_init 62 = .ok (.aload_n 0, 1) := by decide +kernel
theorem dX7_init_63 : decode cX7_init 63 = .ok (.aload_n 3, 1) := by decide +kernel
theorem dX7_init_64 : decode cX7_init 64 = .ok (.iconst 2, 1) := by decide +kernel
theorem dX7_init_65 : decode cX7_init 65 = .ok (.iaload, 1) := by decide +kernel
theorem dX7_init_66 : decode cX7_init 66 = .ok (.iload 5, 2) := by decide +kernel
theorem dX7_init_68 : decode cX7_init 68 = .ok (.imul, 1) := by decide +kernel
theorem dX7_init_69 : decode cX7_init 69 = .ok (.putfield 34, 3) := by decide +kernel
theorem dX7_init_72 : decode cX7_init 72 = .ok (.aload_n 0, 1) := by decide +kernel
theorem dX7_init_73 : decode cX7_init 73 = .ok (.aload 4, 2) := by decide +kernel
theorem dX7_init_75 : decode cX7_init 75 = .ok (.iconst 2, 1) := by decide +kernel
theorem dX7_init_76 : decode cX7_init 76 = .ok (.iaload, 1) := by decide +kernel
theorem dX7_init_77 : decode cX7_init 77 = .ok (.iload 5, 2) := by decide +kernel
theorem dX7_init_79 : decode cX7_init 79 = .ok (.imul, 1) := by decide +kernel
theorem dX7_init_80 : decode cX7_init 80 = .ok (.putfield 37, 3) := by decide +kernel
theorem dX7_init_83 : decode cX7_init 83 = .ok (.aload_n 0, 1) := by decide +kernel
theorem dX7_init_84 : decode cX7_init 84 = .ok (.aload_n 0, 1) := by decide +kernel
theorem dX7_init_85 : decode cX7_init 85 = .ok (.getfield 25, 3) := by decide +kernel
theorem dX7_init_88 : decode cX7_init 88 = .ok (.aload_n 0, 1) := by decide +kernel
theorem dX7_init_89 : decode cX7_init 89 = .ok (.getfield 22, 3) := by decide +kernel
theorem dX7_init_92 : decode cX7_init 92 = .ok (.isub, 1) := by decide +kernel
theorem dX7_init_93 : decode cX7_init 93 = .ok (.iconst 0, 1) := by decide +kernel
theorem dX7_init_94 : decode cX7_init 94 = .ok (.invokestatic 40, 3) := by decide +kernel
theorem dX7_init_97 : decode cX7_init 97 = .ok (.iconst 2, 1) := by decide +kernel
theorem dX7_init_98 : decode cX7_init 98 = .ok (.iadd, 1) := by decide +kernel
theorem dX7_init_99 : decode cX7_init 99 = .ok (.newarray .int, 2) := by decide +kernel
theorem dX7_init_101 : decode cX7_init 101 = .ok (.putfield 46, 3) := by decide +kernel
theorem dX7_init_104 : decode cX7_init 104 = .ok (.iconst 0, 1) := by decide +kernel
theorem dX7_init_105 : decode cX7_init 105 = .ok (.istore 6, 2) := by decide +kernel
theorem dX7_init_107 : decode cX7_init 107 = .ok (.iload 6, 2) := by decide +kernel
theorem dX7_init_109 : decode cX7_init 109 = .ok (.iconst 1, 1) := by decide +kernel
theorem dX7_init_110 : decode cX7_init 110 = .ok (.iadd, 1) := by decide +kernel
theorem dX7_init_111 : decode cX7_init 111 = .ok (.aload_n 0, 1) := by decide +kernel
theorem dX7_init_112 : decode cX7_init 112 = .ok (.getfield 46, 3) := by decide +kernel
theorem dX7_init_115 : decode cX7_init 115 = .ok (.arraylength, 1) := by decide +kernel
theorem dX7_init_116 : decode cX7_init 116 = .ok (.if_icmp .ge 43, 3) := by decide +kernel
theorem dX7_init_119 : decode cX7_init 119 = .ok (.aload_n 0, 1) := by decide +kernel
theorem dX7_init_120 : decode cX7_init 120 = .ok (.getfield 46, 3) := by decide +kernel
theorem dX7_init_123 : decode cX7_init 123 = .ok (.iload 6, 2) := by decide +kernel
theorem dX7_init_125 : decode cX7_init 125 = .ok (.iconst 1, 1) := by decide +kernel
theorem dX7_init_126 : decode cX7_init 126 = .ok (.iadd, 1) := by decide +kernel
theorem dX7_init_127 : decode cX7_init 127 = .ok (.aload_n 0, 1) := by decide +kernel
theorem dX7_init_128 : decode cX7_init 128 = .ok (.getfield 46, 3) := by decide +kernel
theorem dX7_init_131 : decode cX7_init 131 = .ok (.iload 6, 2) := by decide +kernel
theorem dX7_init_133 : decode cX7_init 133 = .ok (.iaload, 1) := by decide +kernel
theorem dX7_init_134 : decode cX7_init 134 = .ok (.aload_n 0, 1) := by decide +kernel
theorem dX7_init_135 : decode cX7_init 135 = .ok (.aload_n 0, 1) := by decide +kernel
theorem dX7_init_136 : decode cX7_init 136 = .ok (.getfield 22, 3) := by decide +kernel
theorem dX7_init_139 : decode cX7_init 139 = .ok (.iload 6, 2) := by decide +kernel
theorem dX7_init_141 : decode cX7_init 141 = .ok (.iadd, 1) := by decide +kernel
theorem dX7_init_142 : decode cX7_init 142 = .ok (.aload_n 0, 1) := by decide +kernel
theorem dX7_init_143 : decode cX7_init 143 = .ok (.getfield 31, 3) := by decide +kernel
theorem dX7_init_146 : decode cX7_init 146 = .ok (.iconst 1, 1) := by decide +kernel
theorem dX7_init_147 : decode cX7_init 147 = .ok (.iadd, 1) := by decide +kernel
theorem dX7_init_148 : decode cX7_init 148 = .ok (.invokevirtual 50, 3) := by decide +kernel
theorem dX7_init_151 : decode cX7_init 151 = .ok (.iadd, 1) := by decide +kernel
theorem dX7_init_152 : decode cX7_init 152 = .ok (.iastore, 1) := by decide +kernel
theorem dX7_init_153 : decode cX7_init 153 = .ok (.iinc 6 1, 3) := by decide +kernel
theorem dX7_init_156 : decode cX7_init 156 = .ok (.goto (-49), 3) := by decide +kernel
theorem dX7_init_159 : decode cX7_init 159 = .ok (.return_, 1) := by decide +kernel
theorem dX7_total_0 : decode cX7_total 0 = .ok (.aload_n 0, 1) := by decide +kernel
theorem dX7_total_1 : decode cX7_total 1 = .ok (.getfield 46, 3) := by decide +kernel
theorem dX7_total_4 : decode cX7_total 4 = .ok (.aload_n 0, 1) := by decide +kernel
theorem dX7_total_5 : decode cX7_total 5 = .ok (.getfield 46, 3) := by decide +kernel
theorem dX7_total_8 : decode cX7_total 8 = .ok (.arraylength, 1) := by decide +kernel
theorem dX7_total_9 : decode cX7_total 9 = .ok (.iconst 1, 1) := by decide +kernel
theorem dX7_total_10 : decode cX7_total 10 = .ok (.isub, 1) := by decide +kernel
theorem dX7_total_11 : decode cX7_total 11 = .ok (.iaload, 1) := by decide +kernel
theorem dX7_total_12 : decode cX7_total 12 = .ok (.ireturn, 1) := by decide +kernel
set_option maxRecDepth 20000 in
theorem ggX7_pointsBelow_X7_look : GoodIn wsX7_pointsBelow wsX7_look := goodIn_r _ [7, 8, 9, 10, 11, 12, 13, 14, 15, 16, 17, 18, 19, 20, 21, 22, 6, 23, 24, 25, 26, 27, 28, 29, 30, 31, 32, 33, 34, 39, 40, 41, 42, 43, 44, 45, 46, 47, 48, 49, 50, 51, 52, 53, 54, 55] (by decide +kernel) (by decide +kernel)
set_option maxRecDepth 20000 in
theorem gX7_pointsBelow_X7_look : GoodIn wsX7_pointsBelow (wsV RX7 53 RX7 yX7_look wsX7_look) := goodIn_app (goodIn_of _ (by decide +kernel)) ggX7_pointsBelow_X7_look
set_option maxRecDepth 20000 in
theorem ggX7_pointsBelow_X7_lookedAt : GoodIn wsX7_pointsBelow wsX7_lookedAt := goodIn_r _ [38, 11, 9, 28, 29, 26, 30, 39, 40, 41, 42, 43, 44, 45, 46, 47, 48, 49, 50] (by decide +kernel) (by decide +kernel)
set_option maxRecDepth 20000 in
theorem gX7_pointsBelow_X7_lookedAt : GoodIn wsX7_pointsBelow (wsV RX7 57 RX7 yX7_lookedAt wsX7_lookedAt) := goodIn_app (goodIn_of _ (by decide +kernel)) ggX7_pointsBelow_X7_lookedAt
theorem dX7_pointsBelow_0 : decode cX7_pointsBelow 0 = .ok (.iconst 0, 1) := by decide +kernel
theorem dX7_pointsBelow_1 : decode cX7_pointsBelow 1 = .ok (.istore_n 3, 1) := by decide +kernel
theorem dX7_pointsBelow_2 : decode cX7_pointsBelow 2 = .ok (.aload_n 0, 1) := by decide +kernel
theorem dX7_pointsBelow_3 : decode cX7_pointsBelow 3 = .ok (.getfield 28, 3) := by decide +kernel
theorem dX7_pointsBelow_6 : decode cX7_pointsBelow 6 = .ok (.istore 4, 2) := by decide +kernel
theorem dX7_pointsBelow_8 : decode cX7_pointsBelow 8 = .ok (.iload 4, 2) := by decide +kernel
theorem dX7_pointsBelow_10 : decode cX7_pointsBelow 10 = .ok (.iload_n 2, 1) := by decide +kernel
theorem dX7_pointsBelow_11 : decode cX7_pointsBelow 11 = .ok (.if_icmp .ge 32, 3) := by decide +kernel
theorem dX7_pointsBelow_14 : decode cX7_pointsBelow 14 = .ok (.iload 4, 2) := by decide +kernel
theorem dX7_pointsBelow_16 : decode cX7_pointsBelow 16 = .ok (.aload_n 0, 1) := by decide +kernel
theorem dX7_pointsBelow_17 : decode cX7_pointsBelow 17 = .ok (.getfield 31, 3) := by decide +kernel
theorem dX7_pointsBelow_20 : decode cX7_pointsBelow 20 = .ok (.if_icmp .gt 23, 3) := by decide +kernel
theorem dX7_pointsBelow_23 : decode cX7_pointsBelow 23 = .ok (.aload_n 0, 1) := by decide +kernel
theorem dX7_pointsBelow_24 : decode cX7_pointsBelow 24 = .ok (.iload_n 1, 1) := by decide +kernel
theorem dX7_pointsBelow_25 : decode cX7_pointsBelow 25 = .ok (.iload 4, 2) := by decide +kernel
theorem dX7_pointsBelow_27 : decode cX7_pointsBelow 27 = .ok (.invokevirtual 53, 3) := by decide +kernel
theorem dX7_pointsBelow_30 : decode cX7_pointsBelow 30 = .ok (.iload_n 3, 1) := by decide +kernel
theorem dX7_pointsBelow_31 : decode cX7_pointsBelow 31 = .ok (.aload_n 0, 1) := by decide +kernel
theorem dX7_pointsBelow_32 : decode cX7_pointsBelow 32 = .ok (.invokevirtual 57, 3) := by decide +kernel
theorem dX7_pointsBelow_35 : decode cX7_pointsBelow 35 = .ok (.iadd, 1) := by decide +kernel
theorem dX7_pointsBelow_36 : decode cX7_pointsBelow 36 = .ok (.istore_n 3, 1) := by decide +kernel
theorem dX7_pointsBelow_37 : decode cX7_pointsBelow 37 = .ok (.iinc 4 1, 3) := by decide +kernel
theorem dX7_pointsBelow_40 : decode cX7_pointsBelow 40 = .ok (.goto (-32), 3) := by decide +kernel
theorem dX7_pointsBelow_43 : decode cX7_pointsBelow 43 = .ok (.iload_n 3, 1) := by decide +kernel
theorem dX7_pointsBelow_44 : decode cX7_pointsBelow 44 = .ok (.ireturn, 1) := by decide +kernel
theorem dX7_lookedAt_0 : decode cX7_lookedAt 0 = .ok (.aload_n 0, 1) := by decide +kernel
theorem dX7_lookedAt_1 : decode cX7_lookedAt 1 = .ok (.getfield 61, 3) := by decide +kernel
theorem dX7_lookedAt_4 : decode cX7_lookedAt 4 = .ok (.aload_n 0, 1) := by decide +kernel
theorem dX7_lookedAt_5 : decode cX7_lookedAt 5 = .ok (.getfield 64, 3) := by decide +kernel
theorem dX7_lookedAt_8 : decode cX7_lookedAt 8 = .ok (.isub, 1) := by decide +kernel
theorem dX7_lookedAt_9 : decode cX7_lookedAt 9 = .ok (.iconst 1, 1) := by decide +kernel
theorem dX7_lookedAt_10 : decode cX7_lookedAt 10 = .ok (.iadd, 1) := by decide +kernel
theorem dX7_lookedAt_11 : decode cX7_lookedAt 11 = .ok (.iconst 0, 1) := by decide +kernel
theorem dX7_lookedAt_12 : decode cX7_lookedAt 12 = .ok (.invokestatic 40, 3) := by decide +kernel
theorem dX7_lookedAt_15 : decode cX7_lookedAt 15 = .ok (.ireturn, 1) := by decide +kernel
set_option maxRecDepth 20000 in
theorem ggX7_look_X7_bound : GoodIn wsX7_look wsX7_bound := goodIn_r _ [17, 4, 18, 19, 20, 21, 2, 22, 23, 24, 25, 26, 27, 28, 29, 30, 31, 32, 33, 34, 35, 36, 37, 38, 39, 40] (by decide +kernel) (by decide +kernel)
set_option maxRecDepth 20000 in
theorem gX7_look_X7_bound : GoodIn wsX7_look (wsV RX7 84 RX7 yX7_bound wsX7_bound) := goodIn_app (goodIn_of _ (by decide +kernel)) ggX7_look_X7_bound
theorem dX7_look_0 : decode cX7_look 0 = .ok (.aload_n 0, 1) := by decide +kernel
theorem dX7_look_1 : decode cX7_look 1 = .ok (.aload_n 0, 1) := by decide +kernel
theorem dX7_look_2 : decode cX7_look 2 = .ok (.getfield 34, 3) := by decide +kernel
theorem dX7_look_5 : decode cX7_look 5 = .ok (.putfield 64, 3) := by decide +kernel
theorem dX7_look_8 : decode cX7_look 8 = .ok (.aload_n 0, 1) := by decide +kernel
theorem dX7_look_9 : decode cX7_look 9 = .ok (.aload_n 0, 1) := by decide +kernel
theorem dX7_look_10 : decode cX7_look 10 = .ok (.getfield 37, 3) := by decide +kernel
theorem dX7_look_13 : decode cX7_look 13 = .ok (.putfield 61, 3) := by decide +kernel
theorem dX7_look_16 : decode cX7_look 16 = .ok (.iconst 0, 1) := by decide +kernel
theorem dX7_look_17 : decode cX7_look 17 = .ok (.istore_n 3, 1) := by decide +kernel
theorem dX7_look_18 : decode cX7_look 18 = .ok (.iload_n 3, 1) := by decide +kernel
theorem dX7_look_19 : decode cX7_look 19 = .ok (.aload_n 0, 1) := by decide +kernel
theorem dX7_look_20 : decode cX7_look 20 = .ok (.getfield 15, 3) := by decide +kernel
theorem dX7_look_23 : decode cX7_look 23 = .ok (.getfield 67, 3) := by decide +kernel
theorem dX7_look_26 : decode cX7_look 26 = .ok (.if_icmp .ge 92, 3) := by decide +kernel
theorem dX7_look_29 : decode cX7_look 29 = .ok (.aload_n 0, 1) := by decide +kernel
theorem dX7_look_30 : decode cX7_look 30 = .ok (.getfield 64, 3) := by decide +kernel
theorem dX7_look_33 : decode cX7_look 33 = .ok (.aload_n 0, 1) := by decide +kernel
theorem dX7_look_34 : decode cX7_look 34 = .ok (.getfield 61, 3) := by decide +kernel
theorem dX7_look_37 : decode cX7_look 37 = .ok (.if_icmp .gt 81, 3) := by decide +kernel
theorem dX7_look_40 : decode cX7_look 40 = .ok (.aload_n 0, 1) := by decide +kernel
theorem dX7_look_41 : decode cX7_look 41 = .ok (.getfield 15, 3) := by decide +kernel
theorem dX7_look_44 : decode cX7_look 44 = .ok (.getfield 72, 3) := by decide +kernel
theorem dX7_look_47 : decode cX7_look 47 = .ok (.iload_n 3, 1) := by decide +kernel
theorem dX7_look_48 : decode cX7_look 48 = .ok (.iaload, 1) := by decide +kernel
theorem dX7_look_49 : decode cX7_look 49 = .ok (.aload_n 0, 1) := by decide +kernel
theorem dX7_look_50 : decode cX7_look 50 = .ok (.getfield 18, 3) := by decide +kernel
theorem dX7_look_53 : decode cX7_look 53 = .ok (.imul, 1) := by decide +kernel
theorem dX7_look_54 : decode cX7_look 54 = .ok (.aload_n 0, 1) := by decide +kernel
theorem dX7_look_55 : decode cX7_look 55 = .ok (.getfield 15, 3) := by decide +kernel
theorem dX7_look_58 : decode cX7_look 58 = .ok (.getfield 75, 3) := by decide +kernel
theorem dX7_look_61 : decode cX7_look 61 = .ok (.iload_n 3, 1) := by decide +kernel
theorem dX7_look_62 : decode cX7_look 62 = .ok (.iaload, 1) := by decide +kernel
theorem dX7_look_63 : decode cX7_look 63 = .ok (.iload_n 1, 1) := by decide +kernel
theorem dX7_look_64 : decode cX7_look 64 = .ok (.imul, 1) := by decide +kernel
theorem dX7_look_65 : decode cX7_look 65 = .ok (.isub, 1) := by decide +kernel
theorem dX7_look_66 : decode cX7_look 66 = .ok (.aload_n 0, 1) := by decide +kernel
theorem dX7_look_67 : decode cX7_look 67 = .ok (.getfield 15, 3) := by decide +kernel
theorem dX7_look_70 : decode cX7_look 70 = .ok (.getfield 78, 3) := by decide +kernel
theorem dX7_look_73 : decode cX7_look 73 = .ok (.iload_n 3, 1) := by decide +kernel
theorem dX7_look_74 : decode cX7_look 74 = .ok (.iaload, 1) := by decide +kernel
theorem dX7_look_75 : decode cX7_look 75 = .ok (.iload_n 2, 1) := by decide +kernel
theorem dX7_look_76 : decode cX7_look 76 = .ok (.imul, 1) := by decide +kernel
theorem dX7_look_77 : decode cX7_look 77 = .ok (.isub, 1) := by decide +kernel
theorem dX7_look_78 : decode cX7_look 78 = .ok (.istore 4, 2) := by decide +kernel
theorem dX7_look_80 : decode cX7_look 80 = .ok (.aload_n 0, 1) := by decide +kernel
theorem dX7_look_81 : decode cX7_look 81 = .ok (.aload_n 0, 1) := by decide +kernel
theorem dX7_look_82 : decode cX7_look 82 = .ok (.getfield 15, 3) := by decide +kernel
theorem dX7_look_85 : decode cX7_look 85 = .ok (.getfield 81, 3) := by decide +kernel
theorem dX7_look_88 : decode cX7_look 88 = .ok (.iload_n 3, 1) := by decide +kernel
theorem dX7_look_89 : decode cX7_look 89 = .ok (.iaload, 1) := by decide +kernel
theorem dX7_look_90 : decode cX7_look 90 = .ok (.iload 4, 2) := by decide +kernel
theorem dX7_look_92 : decode cX7_look 92 = .ok (.invokevirtual 84, 3) := by decide +kernel
theorem dX7_look_95 : decode cX7_look 95 = .ok (.aload_n 0, 1) := by decide +kernel
theorem dX7_look_96 : decode cX7_look 96 = .ok (.aload_n 0, 1) := by decide +kernel
theorem dX7_look_97 : decode cX7_look 97 = .ok (.getfield 15, 3) := by decide +kernel
theorem dX7_look_100 : decode cX7_look 100 = .ok (.getfield 81, 3) := by decide +kernel
theorem dX7_look_103 : decode cX7_look 103 = .ok (.iload_n 3, 1) := by decide +kernel
theorem dX7_look_104 : decode cX7_look 104 = .ok (.iaload, 1) := by decide +kernel
theorem dX7_look_105 : decode cX7_look 105 = .ok (.ineg, 1) := by decide +kernel
theorem dX7_look_106 : decode cX7_look 106 = .ok (.iload 4, 2) := by decide +kernel
theorem dX7_look_108 : decode cX7_look 108 = .ok (.ineg, 1) := by decide +kernel
theorem dX7_look_109 : decode cX7_look 109 = .ok (.invokevirtual 84, 3) := by decide +kernel
theorem dX7_look_112 : decode cX7_look 112 = .ok (.iinc 3 1, 3) := by decide +kernel
theorem dX7_look_115 : decode cX7_look 115 = .ok (.goto (-97), 3) := by decide +kernel
theorem dX7_look_118 : decode cX7_look 118 = .ok (.iconst 0, 1) := by decide +kernel
theorem dX7_look_119 : decode cX7_look 119 = .ok (.istore_n 3, 1) := by decide +kernel
theorem dX7_look_120 : decode cX7_look 120 = .ok (.iload_n 3, 1) := by decide +kernel
theorem dX7_look_121 : decode cX7_look 121 = .ok (.aload_n 0, 1) := by decide +kernel
theorem dX7_look_122 : decode cX7_look 122 = .ok (.getfield 9, 3) := by decide +kernel
theorem dX7_look_125 : decode cX7_look 125 = .ok (.getfield 67, 3) := by decide +kernel
theorem dX7_look_128 : decode cX7_look 128 = .ok (.if_icmp .ge 71, 3) := by decide +kernel
theorem dX7_look_131 : decode cX7_look 131 = .ok (.aload_n 0, 1) := by decide +kernel
theorem dX7_look_132 : decode cX7_look 132 = .ok (.getfield 64, 3) := by decide +kernel
theorem dX7_look_135 : decode cX7_look 135 = .ok (.aload_n 0, 1) := by decide +kernel
theorem dX7_look_136 : decode cX7_look 136 = .ok (.getfield 61, 3) := by decide +kernel
theorem dX7_look_139 : decode cX7_look 139 = .ok (.if_icmp .gt 60, 3) := by decide +kernel
theorem dX7_look_142 : decode cX7_look 142 = .ok (.aload_n 0, 1) := by decide +kernel
theorem dX7_look_143 : decode cX7_look 143 = .ok (.aload_n 0, 1) := by decide +kernel
theorem dX7_look_144 : decode cX7_look 144 = .ok (.getfield 9, 3) := by decide +kernel
theorem dX7_look_147 : decode cX7_look 147 = .ok (.getfield 81, 3) := by decide +kernel
theorem dX7_look_150 : decode cX7_look 150 = .ok (.iload_n 3, 1) := by decide +kernel
theorem dX7_look_151 : decode cX7_look 151 = .ok (.iaload, 1) := by decide +kernel
theorem dX7_look_152 : decode cX7_look 152 = .ok (.aload_n 0, 1) := by decide +kernel
theorem dX7_look_153 : decode cX7_look 153 = .ok (.getfield 9, 3) := by decide +kernel
theorem dX7_look_156 : decode cX7_look 156 = .ok (.getfield 72, 3) := by decide +kernel
theorem dX7_look_159 : decode cX7_look 159 = .ok (.iload_n 3, 1) := by decide +kernel
theorem dX7_look_160 : decode cX7_look 160 = .ok (.iaload, 1) := by decide +kernel
theorem dX7_look_161 : decode cX7_look 161 = .ok (.aload_n 0, 1) := by decide +kernel
theorem dX7_look_162 : decode cX7_look 162 = .ok (.getfield 18, 3) := by decide +kernel
theorem dX7_look_165 : decode cX7_look 165 = .ok (.imul, 1) := by decide +kernel
theorem dX7_look_166 : decode cX7_look 166 = .ok (.aload_n 0, 1) := by decide +kernel
theorem dX7_look_167 : decode cX7_look 167 = .ok (.getfield 9, 3) := by decide +kernel
theorem dX7_look_170 : decode cX7_look 170 = .ok (.getfield 75, 3) := by decide +kernel
theorem dX7_look_173 : decode cX7_look 173 = .ok (.iload_n 3, 1) := by decide +kernel
theorem dX7_look_174 : decode cX7_look 174 = .ok (.iaload, 1) := by decide +kernel
theorem dX7_look_175 : decode cX7_look 175 = .ok (.iload_n 1, 1) := by decide +kernel
theorem dX7_look_176 : decode cX7_look 176 = .ok (.imul, 1) := by decide +kernel
theorem dX7_look_177 : decode cX7_look 177 = .ok (.isub, 1) := by decide +kernel
theorem dX7_look_178 : decode cX7_look 178 = .ok (.aload_n 0, 1) := by decide +kernel
theorem dX7_look_179 : decode cX7_look 179 = .ok (.getfield 9, 3) := by decide +kernel
theorem dX7_look_182 : decode cX7_look 182 = .ok (.getfield 78, 3) := by decide +kernel
theorem dX7_look_185 : decode cX7_look 185 = .ok (.iload_n 3, 1) := by decide +kernel
theorem dX7_look_186 : decode cX7_look 186 = .ok (.iaload, 1) := by decide +kernel
theorem dX7_look_187 : decode cX7_look 187 = .ok (.iload_n 2, 1) := by decide +kernel
theorem dX7_look_188 : decode cX7_look 188 = .ok (.imul, 1) := by decide +kernel
theorem dX7_look_189 : decode cX7_look 189 = .ok (.isub, 1) := by decide +kernel
theorem dX7_look_190 : decode cX7_look 190 = .ok (.invokevirtual 84, 3) := by decide +kernel
theorem dX7_look_193 : decode cX7_look 193 = .ok (.iinc 3 1, 3) := by decide +kernel
theorem dX7_look_196 : decode cX7_look 196 = .ok (.goto (-76), 3) := by decide +kernel
theorem dX7_look_199 : decode cX7_look 199 = .ok (.return_, 1) := by decide +kernel
set_option maxRecDepth 20000 in
theorem ggX7_bound_J9_floorDiv_7cf53 : GoodIn wsX7_bound wsJ9_floorDiv_7cf53 := goodIn_r _ [13] (by decide +kernel) (by decide +kernel)
set_option maxRecDepth 20000 in
theorem gX7_bound_J9_floorDiv_7cf53 : GoodIn wsX7_bound (va_wsS RX7 87 yJ9_floorDiv_7cf53 wsJ9_floorDiv_7cf53) := goodIn_app (goodIn_of _ (by decide +kernel)) ggX7_bound_J9_floorDiv_7cf53
theorem dX7_bound_0 : decode cX7_bound 0 = .ok (.iload_n 1, 1) := by decide +kernel
theorem dX7_bound_1 : decode cX7_bound 1 = .ok (.ifCond .le 22, 3) := by decide +kernel
theorem dX7_bound_4 : decode cX7_bound 4 = .ok (.aload_n 0, 1) := by decide +kernel
theorem dX7_bound_5 : decode cX7_bound 5 = .ok (.aload_n 0, 1) := by decide +kernel
theorem dX7_bound_6 : decode cX7_bound 6 = .ok (.getfield 61, 3) := by decide +kernel
theorem dX7_bound_9 : decode cX7_bound 9 = .ok (.iload_n 2, 1) := by decide +kernel
theorem dX7_bound_10 : decode cX7_bound 10 = .ok (.iload_n 1, 1) := by decide +kernel
theorem dX7_bound_11 : decode cX7_bound 11 = .ok (.invokestatic 87, 3) := by decide +kernel
theorem dX7_bound_14 : decode cX7_bound 14 = .ok (.invokestatic 90, 3) := by decide +kernel
theorem dX7_bound_17 : decode cX7_bound 17 = .ok (.putfield 61, 3) := by decide +kernel
theorem dX7_bound_20 : decode cX7_bound 20 = .ok (.goto 42, 3) := by decide +kernel
theorem dX7_bound_23 : decode cX7_bound 23 = .ok (.iload_n 1, 1) := by decide +kernel
theorem dX7_bound_24 : decode cX7_bound 24 = .ok (.ifCond .ge 24, 3) := by decide +kernel
theorem dX7_bound_27 : decode cX7_bound 27 = .ok (.aload_n 0, 1) := by decide +kernel
theorem dX7_bound_28 : decode cX7_bound 28 = .ok (.aload_n 0, 1) := by decide +kernel
theorem dX7_bound_29 : decode cX7_bound 29 = .ok (.getfield 64, 3) := by decide +kernel
theorem dX7_bound_32 : decode cX7_bound 32 = .ok (.iload_n 2, 1) := by decide +kernel
theorem dX7_bound_33 : decode cX7_bound 33 = .ok (.iload_n 1, 1) := by decide +kernel
theorem dX7_bound_34 : decode cX7_bound 34 = .ok (.ineg, 1) := by decide +kernel
theorem dX7_bound_35 : decode cX7_bound 35 = .ok (.invokestatic 87, 3) := by decide +kernel
theorem dX7_bound_38 : decode cX7_bound 38 = .ok (.ineg, 1) := by decide +kernel
theorem dX7_bound_39 : decode cX7_bound 39 = .ok (.invokestatic 40, 3) := by decide +kernel
theorem dX7_bound_42 : decode cX7_bound 42 = .ok (.putfield 64, 3) := by decide +kernel
theorem dX7_bound_45 : decode cX7_bound 45 = .ok (.goto 17, 3) := by decide +kernel
theorem dX7_bound_48 : decode cX7_bound 48 = .ok (.iload_n 2, 1) := by decide +kernel
theorem dX7_bound_49 : decode cX7_bound 49 = .ok (.ifCond .ge 13, 3) := by decide +kernel
theorem dX7_bound_52 : decode cX7_bound 52 = .ok (.aload_n 0, 1) := by decide +kernel
theorem dX7_bound_53 : decode cX7_bound 53 = .ok (.aload_n 0, 1) := by decide +kernel
theorem dX7_bound_54 : decode cX7_bound 54 = .ok (.getfield 64, 3) := by decide +kernel
theorem dX7_bound_57 : decode cX7_bound 57 = .ok (.iconst 1, 1) := by decide +kernel
theorem dX7_bound_58 : decode cX7_bound 58 = .ok (.isub, 1) := by decide +kernel
theorem dX7_bound_59 : decode cX7_bound 59 = .ok (.putfield 61, 3) := by decide +kernel
theorem dX7_bound_62 : decode cX7_bound 62 = .ok (.return_, 1) := by decide +kernel
set_option maxRecDepth 20000 in
theorem ggX7_pointPart_X7_total : GoodIn wsX7_pointPart wsX7_total := goodIn_r _ [10, 1, 45, 46, 47, 48, 49, 50, 51, 52, 53, 54, 55, 56] (by decide +kernel) (by decide +kernel)
set_option maxRecDepth 20000 in
theorem gX7_pointPart_X7_total : GoodIn wsX7_pointPart (wsV RX7 93 RX7 yX7_total wsX7_total) := goodIn_app (goodIn_of _ (by decide +kernel)) ggX7_pointPart_X7_total
set_option maxRecDepth 20000 in
theorem ggX7_pointPart_X7_look : GoodIn wsX7_pointPart wsX7_look := goodIn_r _ [14, 15, 5, 16, 17, 18, 19, 20, 21, 22, 23, 24, 25, 26, 27, 28, 9, 29, 30, 31, 32, 33, 34, 35, 36, 37, 38, 39, 40, 45, 46, 47, 48, 49, 50, 51, 52, 53, 54, 55, 56, 57, 58, 59, 60, 61] (by decide +kernel) (by decide +kernel)
set_option maxRecDepth 20000 in
theorem gX7_pointPart_X7_look : GoodIn wsX7_pointPart (wsV RX7 53 RX7 yX7_look wsX7_look) := goodIn_app (goodIn_of _ (by decide +kernel)) ggX7_pointPart_X7_look
set_option maxRecDepth 20000 in
theorem ggX7_pointPart_X7_lookedAt : GoodIn wsX7_pointPart wsX7_lookedAt := goodIn_r _ [44, 17, 5, 34, 35, 32, 36, 45, 46, 47, 48, 49, 50, 51, 52, 53, 54, 55, 56] (by decide +kernel) (by decide +kernel)
set_option maxRecDepth 20000 in
theorem gX7_pointPart_X7_lookedAt : GoodIn wsX7_pointPart (wsV RX7 57 RX7 yX7_lookedAt wsX7_lookedAt) := goodIn_app (goodIn_of _ (by decide +kernel)) ggX7_pointPart_X7_lookedAt
theorem dX7_pointPart_0 : decode cX7_pointPart 0 = .ok (.iload_n 1, 1) := by decide +kernel
theorem dX7_pointPart_1 : decode cX7_pointPart 1 = .ok (.ifCond .lt 11, 3) := by decide +kernel
theorem dX7_pointPart_4 : decode cX7_pointPart 4 = .ok (.iload_n 1, 1) := by decide +kernel
theorem dX7_pointPart_5 : decode cX7_pointPart 5 = .ok (.aload_n 0, 1) := by decide +kernel
theorem dX7_pointPart_6 : decode cX7_pointPart 6 = .ok (.invokevirtual 93, 3) := by decide +kernel
theorem dX7_pointPart_9 : decode cX7_pointPart 9 = .ok (.if_icmp .lt 7, 3) := by decide +kernel
theorem dX7_pointPart_12 : decode cX7_pointPart 12 = .ok (.sipush 10000, 3) := by decide +kernel
theorem dX7_pointPart_15 : decode cX7_pointPart 15 = .ok (.ireturn, 1) := by decide +kernel
theorem dX7_pointPart_16 : decode cX7_pointPart 16 = .ok (.iconst 0, 1) := by decide +kernel
theorem dX7_pointPart_17 : decode cX7_pointPart 17 = .ok (.istore_n 3, 1) := by decide +kernel
theorem dX7_pointPart_18 : decode cX7_pointPart 18 = .ok (.iload_n 3, 1) := by decide +kernel
theorem dX7_pointPart_19 : decode cX7_pointPart 19 = .ok (.iconst 2, 1) := by decide +kernel
theorem dX7_pointPart_20 : decode cX7_pointPart 20 = .ok (.iadd, 1) := by decide +kernel
theorem dX7_pointPart_21 : decode cX7_pointPart 21 = .ok (.aload_n 0, 1) := by decide +kernel
theorem dX7_pointPart_22 : decode cX7_pointPart 22 = .ok (.getfield 46, 3) := by decide +kernel
theorem dX7_pointPart_25 : decode cX7_pointPart 25 = .ok (.arraylength, 1) := by decide +kernel
theorem dX7_pointPart_26 : decode cX7_pointPart 26 = .ok (.if_icmp .ge 21, 3) := by decide +kernel
theorem dX7_pointPart_29 : decode cX7_pointPart 29 = .ok (.aload_n 0, 1) := by decide +kernel
theorem dX7_pointPart_30 : decode cX7_pointPart 30 = .ok (.getfield 46, 3) := by decide +kernel
theorem dX7_pointPart_33 : decode cX7_pointPart 33 = .ok (.iload_n 3, 1) := by decide +kernel
theorem dX7_pointPart_34 : decode cX7_pointPart 34 = .ok (.iconst 1, 1) := by decide +kernel
theorem dX7_pointPart_35 : decode cX7_pointPart 35 = .ok (.iadd, 1) := by decide +kernel
theorem dX7_pointPart_36 : decode cX7_pointPart 36 = .ok (.iaload, 1) := by decide +kernel
theorem dX7_pointPart_37 : decode cX7_pointPart 37 = .ok (.iload_n 1, 1) := by decide +kernel
theorem dX7_pointPart_38 : decode cX7_pointPart 38 = .ok (.if_icmp .gt 9, 3) := by decide +kernel
theorem dX7_pointPart_41 : decode cX7_pointPart 41 = .ok (.iinc 3 1, 3) := by decide +kernel
theorem dX7_pointPart_44 : decode cX7_pointPart 44 = .ok (.goto (-26), 3) := by decide +kernel
theorem dX7_pointPart_47 : decode cX7_pointPart 47 = .ok (.aload_n 0, 1) := by decide +kernel
theorem dX7_pointPart_48 : decode cX7_pointPart 48 = .ok (.getfield 22, 3) := by decide +kernel
theorem dX7_pointPart_51 : decode cX7_pointPart 51 = .ok (.iload_n 3, 1) := by decide +kernel
theorem dX7_pointPart_52 : decode cX7_pointPart 52 = .ok (.iadd, 1) := by decide +kernel
theorem dX7_pointPart_53 : decode cX7_pointPart 53 = .ok (.istore 4, 2) := by decide +kernel
theorem dX7_pointPart_55 : decode cX7_pointPart 55 = .ok (.iload_n 1, 1) := by decide +kernel
theorem dX7_pointPart_56 : decode cX7_pointPart 56 = .ok (.aload_n 0, 1) := by decide +kernel
theorem dX7_pointPart_57 : decode cX7_pointPart 57 = .ok (.getfield 46, 3) := by decide +kernel
theorem dX7_pointPart_60 : decode cX7_pointPart 60 = .ok (.iload_n 3, 1) := by decide +kernel
theorem dX7_pointPart_61 : decode cX7_pointPart 61 = .ok (.iaload, 1) := by decide +kernel
theorem dX7_pointPart_62 : decode cX7_pointPart 62 = .ok (.isub, 1) := by decide +kernel
theorem dX7_pointPart_63 : decode cX7_pointPart 63 = .ok (.istore 5, 2) := by decide +kernel
theorem dX7_pointPart_65 : decode cX7_pointPart 65 = .ok (.aload_n 0, 1) := by decide +kernel
theorem dX7_pointPart_66 : decode cX7_pointPart 66 = .ok (.getfield 28, 3) := by decide +kernel
theorem dX7_pointPart_69 : decode cX7_pointPart 69 = .ok (.istore 6, 2) := by decide +kernel
theorem dX7_pointPart_71 : decode cX7_pointPart 71 = .ok (.iload 6, 2) := by decide +kernel
theorem dX7_pointPart_73 : decode cX7_pointPart 73 = .ok (.aload_n 0, 1) := by decide +kernel
theorem dX7_pointPart_74 : decode cX7_pointPart 74 = .ok (.getfield 31, 3) := by decide +kernel
theorem dX7_pointPart_77 : decode cX7_pointPart 77 = .ok (.if_icmp .gt 62, 3) := by decide +kernel
theorem dX7_pointPart_80 : decode cX7_pointPart 80 = .ok (.aload_n 0, 1) := by decide +kernel
theorem dX7_pointPart_81 : decode cX7_pointPart 81 = .ok (.iload 4, 2) := by decide +kernel
theorem dX7_pointPart_83 : decode cX7_pointPart 83 = .ok (.iload 6, 2) := by decide +kernel
theorem dX7_pointPart_85 : decode cX7_pointPart 85 = .ok (.invokevirtual 53, 3) := by decide +kernel
theorem dX7_pointPart_88 : decode cX7_pointPart 88 = .ok (.iload 5, 2) := by decide +kernel
theorem dX7_pointPart_90 : decode cX7_pointPart 90 = .ok (.aload_n 0, 1) := by decide +kernel
theorem dX7_pointPart_91 : decode cX7_pointPart 91 = .ok (.invokevirtual 57, 3) := by decide +kernel
theorem dX7_pointPart_94 : decode cX7_pointPart 94 = .ok (.if_icmp .ge 30, 3) := by decide +kernel
theorem dX7_pointPart_97 : decode cX7_pointPart 97 = .ok (.iload_n 2, 1) := by decide +kernel
theorem dX7_pointPart_98 : decode cX7_pointPart 98 = .ok (.ifCond .ne 8, 3) := by decide +kernel
theorem dX7_pointPart_101 : decode cX7_pointPart 101 = .ok (.iload 4, 2) := by decide +kernel
theorem dX7_pointPart_103 : decode cX7_pointPart 103 = .ok (.goto 20, 3) := by decide +kernel
theorem dX7_pointPart_106 : decode cX7_pointPart 106 = .ok (.iload_n 2, 1) := by decide +kernel
theorem dX7_pointPart_107 : decode cX7_pointPart 107 = .ok (.iconst 1, 1) := by decide +kernel
theorem dX7_pointPart_108 : decode cX7_pointPart 108 = .ok (.if_icmp .ne 8, 3) := by decide +kernel
theorem dX7_pointPart_111 : decode cX7_pointPart 111 = .ok (.iload 6, 2) := by decide +kernel
theorem dX7_pointPart_113 : decode cX7_pointPart 113 = .ok (.goto 10, 3) := by decide +kernel
theorem dX7_pointPart_116 : decode cX7_pointPart 116 = .ok (.aload_n 0, 1) := by decide +kernel
theorem dX7_pointPart_117 : decode cX7_pointPart 117 = .ok (.getfield 64, 3) := by decide +kernel
theorem dX7_pointPart_120 : decode cX7_pointPart 120 = .ok (.iload 5, 2) := by decide +kernel
theorem dX7_pointPart_122 : decode cX7_pointPart 122 = .ok (.iadd, 1) := by decide +kernel
theorem dX7_pointPart_123 : decode cX7_pointPart 123 = .ok (.ireturn, 1) := by decide +kernel
theorem dX7_pointPart_124 : decode cX7_pointPart 124 = .ok (.iload 5, 2) := by decide +kernel
theorem dX7_pointPart_126 : decode cX7_pointPart 126 = .ok (.aload_n 0, 1) := by decide +kernel
theorem dX7_pointPart_127 : decode cX7_pointPart 127 = .ok (.invokevirtual 57, 3) := by decide +kernel
theorem dX7_pointPart_130 : decode cX7_pointPart 130 = .ok (.isub, 1) := by decide +kernel
theorem dX7_pointPart_131 : decode cX7_pointPart 131 = .ok (.istore 5, 2) := by decide +kernel
theorem dX7_pointPart_133 : decode cX7_pointPart 133 = .ok (.iinc 6 1, 3) := by decide +kernel
theorem dX7_pointPart_136 : decode cX7_pointPart 136 = .ok (.goto (-65), 3) := by decide +kernel
theorem dX7_pointPart_139 : decode cX7_pointPart 139 = .ok (.sipush 10000, 3) := by decide +kernel
theorem dX7_pointPart_142 : decode cX7_pointPart 142 = .ok (.ireturn, 1) := by decide +kernel
set_option maxRecDepth 20000 in
theorem ggX7_rankOf_X7_pointsBelow : GoodIn wsX7_rankOf wsX7_pointsBelow := goodIn_r _ [12, 3, 4, 13, 14, 15, 11, 16, 17, 6, 18, 7, 19, 20, 21, 22, 23, 24, 25, 26, 27, 28, 29, 30, 31, 32, 33, 34, 35, 36, 37, 38, 39, 40, 41, 42, 43, 44, 45, 46, 47, 48, 49, 50, 51, 52, 53, 54, 55, 56, 57, 58, 59, 60, 61, 62] (by decide +kernel) (by decide +kernel)
set_option maxRecDepth 20000 in
theorem gX7_rankOf_X7_pointsBelow : GoodIn wsX7_rankOf (wsV RX7 50 RX7 yX7_pointsBelow wsX7_pointsBelow) := goodIn_app (goodIn_of _ (by decide +kernel)) ggX7_rankOf_X7_pointsBelow
set_option maxRecDepth 20000 in
theorem ggX7_rankOf_X7_look : GoodIn wsX7_rankOf wsX7_look := goodIn_r _ [16, 17, 6, 18, 7, 19, 20, 21, 22, 23, 24, 25, 26, 27, 28, 29, 11, 30, 31, 32, 33, 34, 35, 36, 37, 38, 39, 40, 41, 46, 47, 48, 49, 50, 51, 52, 53, 54, 55, 56, 57, 58, 59, 60, 61, 62] (by decide +kernel) (by decide +kernel)
set_option maxRecDepth 20000 in
theorem gX7_rankOf_X7_look : GoodIn wsX7_rankOf (wsV RX7 53 RX7 yX7_look wsX7_look) := goodIn_app (goodIn_of _ (by decide +kernel)) ggX7_rankOf_X7_look
theorem dX7_rankOf_0 : decode cX7_rankOf 0 = .ok (.iload_n 1, 1) := by decide +kernel
theorem dX7_rankOf_1 : decode cX7_rankOf 1 = .ok (.aload_n 0, 1) := by decide +kernel
theorem dX7_rankOf_2 : decode cX7_rankOf 2 = .ok (.getfield 22, 3) := by decide +kernel
theorem dX7_rankOf_5 : decode cX7_rankOf 5 = .ok (.if_icmp .lt 27, 3) := by decide +kernel
theorem dX7_rankOf_8 : decode cX7_rankOf 8 = .ok (.iload_n 1, 1) := by decide +kernel
theorem dX7_rankOf_9 : decode cX7_rankOf 9 = .ok (.aload_n 0, 1) := by decide +kernel
theorem dX7_rankOf_10 : decode cX7_rankOf 10 = .ok (.getfield 25, 3) := by decide +kernel
theorem dX7_rankOf_13 : decode cX7_rankOf 13 = .ok (.if_icmp .gt 19, 3) := by decide +kernel
theorem dX7_rankOf_16 : decode cX7_rankOf 16 = .ok (.iload_n 2, 1) := by decide +kernel
theorem dX7_rankOf_17 : decode cX7_rankOf 17 = .ok (.aload_n 0, 1) := by decide +kernel
theorem dX7_rankOf_18 : decode cX7_rankOf 18 = .ok (.getfield 28, 3) := by decide +kernel
theorem dX7_rankOf_21 : decode cX7_rankOf 21 = .ok (.if_icmp .lt 11, 3) := by decide +kernel
theorem dX7_rankOf_24 : decode cX7_rankOf 24 = .ok (.iload_n 2, 1) := by decide +kernel
theorem dX7_rankOf_25 : decode cX7_rankOf 25 = .ok (.aload_n 0, 1) := by decide +kernel
theorem dX7_rankOf_26 : decode cX7_rankOf 26 = .ok (.getfield 31, 3) := by decide +kernel
theorem dX7_rankOf_29 : decode cX7_rankOf 29 = .ok (.if_icmp .le 6, 3) := by decide +kernel
theorem dX7_rankOf_32 : decode cX7_rankOf 32 = .ok (.bipush (-4), 2) := by decide +kernel
theorem dX7_rankOf_34 : decode cX7_rankOf 34 = .ok (.ireturn, 1) := by decide +kernel
theorem dX7_rankOf_35 : decode cX7_rankOf 35 = .ok (.aload_n 0, 1) := by decide +kernel
theorem dX7_rankOf_36 : decode cX7_rankOf 36 = .ok (.getfield 46, 3) := by decide +kernel
theorem dX7_rankOf_39 : decode cX7_rankOf 39 = .ok (.iload_n 1, 1) := by decide +kernel
theorem dX7_rankOf_40 : decode cX7_rankOf 40 = .ok (.aload_n 0, 1) := by decide +kernel
theorem dX7_rankOf_41 : decode cX7_rankOf 41 = .ok (.getfield 22, 3) := by decide +kernel
theorem dX7_rankOf_44 : decode cX7_rankOf 44 = .ok (.isub, 1) := by decide +kernel
theorem dX7_rankOf_45 : decode cX7_rankOf 45 = .ok (.iaload, 1) := by decide +kernel
theorem dX7_rankOf_46 : decode cX7_rankOf 46 = .ok (.aload_n 0, 1) := by decide +kernel
theorem dX7_rankOf_47 : decode cX7_rankOf 47 = .ok (.iload_n 1, 1) := by decide +kernel
theorem dX7_rankOf_48 : decode cX7_rankOf 48 = .ok (.iload_n 2, 1) := by decide +kernel
theorem dX7_rankOf_49 : decode cX7_rankOf 49 = .ok (.invokevirtual 50, 3) := by decide +kernel
theorem dX7_rankOf_52 : decode cX7_rankOf 52 = .ok (.iadd, 1) := by decide +kernel
theorem dX7_rankOf_53 : decode cX7_rankOf 53 = .ok (.istore 4, 2) := by decide +kernel
theorem dX7_rankOf_55 : decode cX7_rankOf 55 = .ok (.aload_n 0, 1) := by decide +kernel
theorem dX7_rankOf_56 : decode cX7_rankOf 56 = .ok (.iload_n 1, 1) := by decide +kernel
theorem dX7_rankOf_57 : decode cX7_rankOf 57 = .ok (.iload_n 2, 1) := by decide +kernel
theorem dX7_rankOf_58 : decode cX7_rankOf 58 = .ok (.invokevirtual 53, 3) := by decide +kernel
theorem dX7_rankOf_61 : decode cX7_rankOf 61 = .ok (.iload_n 3, 1) := by decide +kernel
theorem dX7_rankOf_62 : decode cX7_rankOf 62 = .ok (.aload_n 0, 1) := by decide +kernel
theorem dX7_rankOf_63 : decode cX7_rankOf 63 = .ok (.getfield 64, 3) := by decide +kernel
theorem dX7_rankOf_66 : decode cX7_rankOf 66 = .ok (.if_icmp .lt 23, 3) := by decide +kernel
theorem dX7_rankOf_69 : decode cX7_rankOf 69 = .ok (.iload_n 3, 1) := by decide +kernel
theorem dX7_rankOf_70 : decode cX7_rankOf 70 = .ok (.aload_n 0, 1) := by decide +kernel
theorem dX7_rankOf_71 : decode cX7_rankOf 71 = .ok (.getfield 61, 3) := by decide +kernel
theorem dX7_rankOf_74 : decode cX7_rankOf 74 = .ok (.if_icmp .gt 15, 3) := by decide +kernel
theorem dX7_rankOf_77 : decode cX7_rankOf 77 = .ok (.iload 4, 2) := by decide +kernel
theorem dX7_rankOf_79 : decode cX7_rankOf 79 = .ok (.iload_n 3, 1) := by decide +kernel
theorem dX7_rankOf_80 : decode cX7_rankOf 80 = .ok (.iadd, 1) := by decide +kernel
theorem dX7_rankOf_81 : decode cX7_rankOf 81 = .ok (.aload_n 0, 1) := by decide +kernel
theorem dX7_rankOf_82 : decode cX7_rankOf 82 = .ok (.getfield 64, 3) := by decide +kernel
theorem dX7_rankOf_85 : decode cX7_rankOf 85 = .ok (.isub, 1) := by decide +kernel
theorem dX7_rankOf_86 : decode cX7_rankOf 86 = .ok (.goto 5, 3) := by decide +kernel
theorem dX7_rankOf_89 : decode cX7_rankOf 89 = .ok (.bipush (-4), 2) := by decide +kernel
theorem dX7_rankOf_91 : decode cX7_rankOf 91 = .ok (.ireturn, 1) := by decide +kernel
set_option maxRecDepth 20000 in
theorem ggX7_gather_X7_look : GoodIn wsX7_gather wsX7_look := goodIn_r _ [11, 12, 5, 13, 6, 14, 15, 16, 17, 18, 19, 20, 21, 22, 23, 24, 10, 25, 26, 27, 28, 29, 30, 31, 32, 33, 34, 35, 36, 46, 47, 48, 49, 50, 51, 52, 53, 54, 55, 56, 57, 58, 59, 60, 61, 62] (by decide +kernel) (by decide +kernel)
set_option maxRecDepth 20000 in
theorem gX7_gather_X7_look : GoodIn wsX7_gather (wsV RX7 53 RX7 yX7_look wsX7_look) := goodIn_app (goodIn_of _ (by decide +kernel)) ggX7_gather_X7_look
set_option maxRecDepth 20000 in
theorem ggX7_gather_X4_put : GoodIn wsX7_gather wsX4_put := goodIn_r _ [41, 42, 43, 44, 45, 63, 64, 65, 66] (by decide +kernel) (by decide +kernel)
set_option maxRecDepth 20000 in
theorem gX7_gather_X4_put : GoodIn wsX7_gather (wsV RX7 96 RX4 yX4_put wsX4_put) := goodIn_app (goodIn_of _ (by decide +kernel)) ggX7_gather_X4_put
theorem dX7_gather_0 : decode cX7_gather 0 = .ok (.aload_n 0, 1) := by decide +kernel
theorem dX7_gather_1 : decode cX7_gather 1 = .ok (.getfield 22, 3) := by decide +kernel
theorem dX7_gather_4 : decode cX7_gather 4 = .ok (.istore 4, 2) := by decide +kernel
theorem dX7_gather_6 : decode cX7_gather 6 = .ok (.iload 4, 2) := by decide +kernel
theorem dX7_gather_8 : decode cX7_gather 8 = .ok (.aload_n 0, 1) := by decide +kernel
theorem dX7_gather_9 : decode cX7_gather 9 = .ok (.getfield 25, 3) := by decide +kernel
theorem dX7_gather_12 : decode cX7_gather 12 = .ok (.if_icmp .gt 104, 3) := by decide +kernel
theorem dX7_gather_15 : decode cX7_gather 15 = .ok (.aload_n 0, 1) := by decide +kernel
theorem dX7_gather_16 : decode cX7_gather 16 = .ok (.getfield 28, 3) := by decide +kernel
theorem dX7_gather_19 : decode cX7_gather 19 = .ok (.istore 5, 2) := by decide +kernel
theorem dX7_gather_21 : decode cX7_gather 21 = .ok (.iload 5, 2) := by decide +kernel
theorem dX7_gather_23 : decode cX7_gather 23 = .ok (.aload_n 0, 1) := by decide +kernel
theorem dX7_gather_24 : decode cX7_gather 24 = .ok (.getfield 31, 3) := by decide +kernel
theorem dX7_gather_27 : decode cX7_gather 27 = .ok (.if_icmp .gt 83, 3) := by decide +kernel
theorem dX7_gather_30 : decode cX7_gather 30 = .ok (.iload_n 2, 1) := by decide +kernel
theorem dX7_gather_31 : decode cX7_gather 31 = .ok (.ifCond .ne 9, 3) := by decide +kernel
theorem dX7_gather_34 : decode cX7_gather 34 = .ok (.iload 4, 2) := by decide +kernel
theorem dX7_gather_36 : decode cX7_gather 36 = .ok (.iload_n 3, 1) := by decide +kernel
theorem dX7_gather_37 : decode cX7_gather 37 = .ok (.if_icmp .ne 67, 3) := by decide +kernel
theorem dX7_gather_40 : decode cX7_gather 40 = .ok (.iload_n 2, 1) := by decide +kernel
theorem dX7_gather_41 : decode cX7_gather 41 = .ok (.iconst 1, 1) := by decide +kernel
theorem dX7_gather_42 : decode cX7_gather 42 = .ok (.if_icmp .ne 12, 3) := by decide +kernel
theorem dX7_gather_45 : decode cX7_gather 45 = .ok (.iload 5, 2) := by decide +kernel
theorem dX7_gather_47 : decode cX7_gather 47 = .ok (.iload_n 3, 1) := by decide +kernel
theorem dX7_gather_48 : decode cX7_gather 48 = .ok (.if_icmp .eq 6, 3) := by decide +kernel
theorem dX7_gather_51 : decode cX7_gather 51 = .ok (.goto 53, 3) := by decide +kernel
theorem dX7_gather_54 : decode cX7_gather 54 = .ok (.aload_n 0, 1) := by decide +kernel
theorem dX7_gather_55 : decode cX7_gather 55 = .ok (.iload 4, 2) := by decide +kernel
theorem dX7_gather_57 : decode cX7_gather 57 = .ok (.iload 5, 2) := by decide +kernel
theorem dX7_gather_59 : decode cX7_gather 59 = .ok (.invokevirtual 53, 3) := by decide +kernel
theorem dX7_gather_62 : decode cX7_gather 62 = .ok (.aload_n 0, 1) := by decide +kernel
theorem dX7_gather_63 : decode cX7_gather 63 = .ok (.getfield 64, 3) := by decide +kernel
theorem dX7_gather_66 : decode cX7_gather 66 = .ok (.istore 6, 2) := by decide +kernel
theorem dX7_gather_68 : decode cX7_gather 68 = .ok (.iload 6, 2) := by decide +kernel
theorem dX7_gather_70 : decode cX7_gather 70 = .ok (.aload_n 0, 1) := by decide +kernel
theorem dX7_gather_71 : decode cX7_gather 71 = .ok (.getfield 61, 3) := by decide +kernel
theorem dX7_gather_74 : decode cX7_gather 74 = .ok (.if_icmp .gt 30, 3) := by decide +kernel
theorem dX7_gather_77 : decode cX7_gather 77 = .ok (.iload_n 2, 1) := by decide +kernel
theorem dX7_gather_78 : decode cX7_gather 78 = .ok (.iconst 2, 1) := by decide +kernel
theorem dX7_gather_79 : decode cX7_gather 79 = .ok (.if_icmp .ne 9, 3) := by decide +kernel
theorem dX7_gather_82 : decode cX7_gather 82 = .ok (.iload 6, 2) := by decide +kernel
theorem dX7_gather_84 : decode cX7_gather 84 = .ok (.iload_n 3, 1) := by decide +kernel
theorem dX7_gather_85 : decode cX7_gather 85 = .ok (.if_icmp .ne 13, 3) := by decide +kernel
theorem dX7_gather_88 : decode cX7_gather 88 = .ok (.aload_n 1, 1) := by decide +kernel
theorem dX7_gather_89 : decode cX7_gather 89 = .ok (.iload 4, 2) := by decide +kernel
theorem dX7_gather_91 : decode cX7_gather 91 = .ok (.iload 5, 2) := by decide +kernel
theorem dX7_gather_93 : decode cX7_gather 93 = .ok (.iload 6, 2) := by decide +kernel
theorem dX7_gather_95 : decode cX7_gather 95 = .ok (.invokevirtual 96, 3) := by decide +kernel
theorem dX7_gather_98 : decode cX7_gather 98 = .ok (.iinc 6 1, 3) := by decide +kernel
theorem dX7_gather_101 : decode cX7_gather 101 = .ok (.goto (-33), 3) := by decide +kernel
theorem dX7_gather_104 : decode cX7_gather 104 = .ok (.iinc 5 1, 3) := by decide +kernel
theorem dX7_gather_107 : decode cX7_gather 107 = .ok (.goto (-86), 3) := by decide +kernel
theorem dX7_gather_110 : decode cX7_gather 110 = .ok (.iinc 4 1, 3) := by decide +kernel
theorem dX7_gather_113 : decode cX7_gather 113 = .ok (.goto (-107), 3) := by decide +kernel
theorem dX7_gather_116 : decode cX7_gather 116 = .ok (.return_, 1) := by decide +kernel
set_option maxRecDepth 20000 in
theorem ggX8_init_X4_init : GoodIn wsX8_init wsX4_init := goodIn_r _ [20, 21, 2, 3, 22, 23, 24, 25, 26, 27, 28, 29, 66, 67, 68, 69] (by decide +kernel) (by decide +kernel)
set_option maxRecDepth 20000 in
theorem gX8_init_X4_init : GoodIn wsX8_init (wsX4_init) := ggX8_init_X4_init
set_option maxRecDepth 20000 in
theorem ggX8_init_X3_init : GoodIn wsX8_init wsX3_init := goodIn_r _ [31, 32, 2, 3, 33, 5, 6, 34, 35, 36, 37, 38, 39, 40, 41, 42, 43, 44, 45, 46, 47, 19, 20, 21, 22, 23, 24, 25, 26, 27, 28, 29, 48, 49, 50, 51, 52, 53, 54, 55, 56, 57, 58, 59, 66, 67, 68, 69, 75, 76, 77, 78, 79, 80, 81, 82, 86, 87, 88, 89, 90, 91, 92, 93] (by decide +kernel) (by decide +kernel)
set_option maxRecDepth 20000 in
theorem gX8_init_X3_init_n32 : GoodIn wsX8_init (wsX3_init) := ggX8_init_X3_init
set_option maxRecDepth 20000 in
theorem ggX8_init_X5_init : GoodIn wsX8_init wsX5_init := goodIn_r _ [61, 62, 2, 3, 63, 64, 65, 83, 84, 85] (by decide +kernel) (by decide +kernel)
set_option maxRecDepth 20000 in
theorem gX8_init_X5_init_n37 : GoodIn wsX8_init (wsX5_init) := ggX8_init_X5_init
theorem dX8_init_0 : decode cX8_init 0 = .ok (.aload_n 0, 1) := by decide +kernel
theorem dX8_init_1 : decode cX8_init 1 = .ok (.invokespecial 3, 3) := by decide +kernel
theorem dX8_init_4 : decode cX8_init 4 = .ok (.aload_n 0, 1) := by decide +kernel
theorem dX8_init_5 : decode cX8_init 5 = .ok (.new 9, 3) := by decide +kernel
theorem dX8_init_8 : decode cX8_init 8 = .ok (.dup, 1) := by decide +kernel
theorem dX8_init_9 : decode cX8_init 9 = .ok (.bipush 12, 2) := by decide +kernel
theorem dX8_init_11 : decode cX8_init 11 = .ok (.invokespecial 11, 3) := by decide +kernel
theorem dX8_init_14 : decode cX8_init 14 = .ok (.putfield 14, 3) := by decide +kernel
theorem dX8_init_17 : decode cX8_init 17 = .ok (.aload_n 0, 1) := by decide +kernel
theorem dX8_init_18 : decode cX8_init 18 = .ok (.iconst 4, 1) := by decide +kernel
theorem dX8_init_19 : decode cX8_init 19 = .ok (.anewarray 18, 3) := by decide +kernel
theorem dX8_init_22 : decode cX8_init 22 = .ok (.putfield 20, 3) := by decide +kernel
theorem dX8_init_25 : decode cX8_init 25 = .ok (.aload_n 0, 1) := by decide +kernel
theorem dX8_init_26 : decode cX8_init 26 = .ok (.bipush 8, 2) := by decide +kernel
theorem dX8_init_28 : decode cX8_init 28 = .ok (.anewarray 24, 3) := by decide +kernel
theorem dX8_init_31 : decode cX8_init 31 = .ok (.putfield 26, 3) := by decide +kernel
theorem dX8_init_34 : decode cX8_init 34 = .ok (.aload_n 0, 1) := by decide +kernel
theorem dX8_init_35 : decode cX8_init 35 = .ok (.new 30, 3) := by decide +kernel
theorem dX8_init_38 : decode cX8_init 38 = .ok (.dup, 1) := by decide +kernel
theorem dX8_init_39 : decode cX8_init 39 = .ok (.invokespecial 32, 3) := by decide +kernel
theorem dX8_init_42 : decode cX8_init 42 = .ok (.putfield 33, 3) := by decide +kernel
theorem dX8_init_45 : decode cX8_init 45 = .ok (.iconst 0, 1) := by decide +kernel
theorem dX8_init_46 : decode cX8_init 46 = .ok (.istore_n 1, 1) := by decide +kernel
theorem dX8_init_47 : decode cX8_init 47 = .ok (.iload_n 1, 1) := by decide +kernel
theorem dX8_init_48 : decode cX8_init 48 = .ok (.iconst 4, 1) := by decide +kernel
theorem dX8_init_49 : decode cX8_init 49 = .ok (.if_icmp .ge 22, 3) := by decide +kernel
theorem dX8_init_52 : decode cX8_init 52 = .ok (.aload_n 0, 1) := by decide +kernel
theorem dX8_init_53 : decode cX8_init 53 = .ok (.getfield 20, 3) := by decide +kernel
theorem dX8_init_56 : decode cX8_init 56 = .ok (.iload_n 1, 1) := by decide +kernel
theorem dX8_init_57 : decode cX8_init 57 = .ok (.new 18, 3) := by decide +kernel
theorem dX8_init_60 : decode cX8_init 60 = .ok (.dup, 1) := by decide +kernel
theorem dX8_init_61 : decode cX8_init 61 = .ok (.invokespecial 37, 3) := by decide +kernel
theorem dX8_init_64 : decode cX8_init 64 = .ok (.aastore, 1) := by decide +kernel
theorem dX8_init_65 : decode cX8_init 65 = .ok (.iinc 1 1, 3) := by decide +kernel
theorem dX8_init_68 : decode cX8_init 68 = .ok (.goto (-21), 3) := by decide +kernel
theorem dX8_init_71 : decode cX8_init 71 = .ok (.return_, 1) := by decide +kernel
set_option maxRecDepth 20000 in
theorem ggX8_corner_X8_inReach : GoodIn wsX8_corner wsX8_inReach := goodIn_r _ [6, 7, 8, 5, 9] (by decide +kernel) (by decide +kernel)
set_option maxRecDepth 20000 in
theorem gX8_corner_X8_inReach : GoodIn wsX8_corner (va_wsS RX8 38 yX8_inReach wsX8_inReach) := goodIn_app (goodIn_of _ (by decide +kernel)) ggX8_corner_X8_inReach
set_option maxRecDepth 20000 in
theorem ggX8_corner_X4_put : GoodIn wsX8_corner wsX4_put := goodIn_r _ [14, 15, 16, 17, 18, 24, 25, 26, 27] (by decide +kernel) (by decide +kernel)
set_option maxRecDepth 20000 in
theorem gX8_corner_X4_put : GoodIn wsX8_corner (wsV RX8 46 RX4 yX4_put wsX4_put) := goodIn_app (goodIn_of _ (by decide +kernel)) ggX8_corner_X4_put
theorem dX8_corner_0 : decode cX8_corner 0 = .ok (.iload_n 1, 1) := by decide +kernel
theorem dX8_corner_1 : decode cX8_corner 1 = .ok (.i2l, 1) := by decide +kernel
theorem dX8_corner_2 : decode cX8_corner 2 = .ok (.iload_n 2, 1) := by decide +kernel
theorem dX8_corner_3 : decode cX8_corner 3 = .ok (.i2l, 1) := by decide +kernel
theorem dX8_corner_4 : decode cX8_corner 4 = .ok (.iload_n 3, 1) := by decide +kernel
theorem dX8_corner_5 : decode cX8_corner 5 = .ok (.i2l, 1) := by decide +kernel
theorem dX8_corner_6 : decode cX8_corner 6 = .ok (.invokestatic 38, 3) := by decide +kernel
theorem dX8_corner_9 : decode cX8_corner 9 = .ok (.ifCond .ne 5, 3) := by decide +kernel
theorem dX8_corner_12 : decode cX8_corner 12 = .ok (.iconst (-1), 1) := by decide +kernel
theorem dX8_corner_13 : decode cX8_corner 13 = .ok (.ireturn, 1) := by decide +kernel
theorem dX8_corner_14 : decode cX8_corner 14 = .ok (.aload_n 0, 1) := by decide +kernel
theorem dX8_corner_15 : decode cX8_corner 15 = .ok (.getfield 14, 3) := by decide +kernel
theorem dX8_corner_18 : decode cX8_corner 18 = .ok (.getfield 42, 3) := by decide +kernel
theorem dX8_corner_21 : decode cX8_corner 21 = .ok (.bipush 12, 2) := by decide +kernel
theorem dX8_corner_23 : decode cX8_corner 23 = .ok (.if_icmp .lt 6, 3) := by decide +kernel
theorem dX8_corner_26 : decode cX8_corner 26 = .ok (.bipush (-3), 2) := by decide +kernel
theorem dX8_corner_28 : decode cX8_corner 28 = .ok (.ireturn, 1) := by decide +kernel
theorem dX8_corner_29 : decode cX8_corner 29 = .ok (.aload_n 0, 1) := by decide +kernel
theorem dX8_corner_30 : decode cX8_corner 30 = .ok (.getfield 14, 3) := by decide +kernel
theorem dX8_corner_33 : decode cX8_corner 33 = .ok (.iload_n 1, 1) := by decide +kernel
theorem dX8_corner_34 : decode cX8_corner 34 = .ok (.iload_n 2, 1) := by decide +kernel
theorem dX8_corner_35 : decode cX8_corner 35 = .ok (.iload_n 3, 1) := by decide +kernel
theorem dX8_corner_36 : decode cX8_corner 36 = .ok (.invokevirtual 46, 3) := by decide +kernel
theorem dX8_corner_39 : decode cX8_corner 39 = .ok (.aload_n 0, 1) := by decide +kernel
theorem dX8_corner_40 : decode cX8_corner 40 = .ok (.getfield 14, 3) := by decide +kernel
theorem dX8_corner_43 : decode cX8_corner 43 = .ok (.getfield 42, 3) := by decide +kernel
theorem dX8_corner_46 : decode cX8_corner 46 = .ok (.ireturn, 1) := by decide +kernel
set_option maxRecDepth 20000 in
theorem ggX8_sheaf_X8_isSheaf : GoodIn wsX8_sheaf wsX8_isSheaf := goodIn_r _ [5] (by decide +kernel) (by decide +kernel)
set_option maxRecDepth 20000 in
theorem gX8_sheaf_X8_isSheaf : GoodIn wsX8_sheaf (va_wsS RX8 50 yX8_isSheaf wsX8_isSheaf) := goodIn_app (goodIn_of _ (by decide +kernel)) ggX8_sheaf_X8_isSheaf
set_option maxRecDepth 20000 in
theorem ggX8_sheaf_X8_isLane : GoodIn wsX8_sheaf wsX8_isLane := goodIn_r _ [8] (by decide +kernel) (by decide +kernel)
set_option maxRecDepth 20000 in
theorem gX8_sheaf_X8_isLane : GoodIn wsX8_sheaf (va_wsS RX8 54 yX8_isLane wsX8_isLane) := goodIn_app (goodIn_of _ (by decide +kernel)) ggX8_sheaf_X8_isLane
set_option maxRecDepth 20000 in
theorem ggX8_sheaf_X5_renew : GoodIn wsX8_sheaf wsX5_renew := goodIn_r _ [13, 14, 15, 16, 22, 23, 24] (by decide +kernel) (by decide +kernel)
set_option maxRecDepth 20000 in
theorem gX8_sheaf_X5_renew : GoodIn wsX8_sheaf (wsV RX8 57 RX5 yX5_renew wsX5_renew) := goodIn_app (goodIn_of _ (by decide +kernel)) ggX8_sheaf_X5_renew
theorem dX8_sheaf_0 : decode cX8_sheaf 0 = .ok (.iload_n 1, 1) := by decide +kernel
theorem dX8_sheaf_1 : decode cX8_sheaf 1 = .ok (.invokestatic 50, 3) := by decide +kernel
theorem dX8_sheaf_4 : decode cX8_sheaf 4 = .ok (.ifCond .eq 16, 3) := by decide +kernel
theorem dX8_sheaf_7 : decode cX8_sheaf 7 = .ok (.iload_n 2, 1) := by decide +kernel
theorem dX8_sheaf_8 : decode cX8_sheaf 8 = .ok (.invokestatic 54, 3) := by decide +kernel
theorem dX8_sheaf_11 : decode cX8_sheaf 11 = .ok (.ifCond .eq 9, 3) := by decide +kernel
theorem dX8_sheaf_14 : decode cX8_sheaf 14 = .ok (.iload_n 3, 1) := by decide +kernel
theorem dX8_sheaf_15 : decode cX8_sheaf 15 = .ok (.bipush 36, 2) := by decide +kernel
theorem dX8_sheaf_17 : decode cX8_sheaf 17 = .ok (.if_icmp .le 5, 3) := by decide +kernel
theorem dX8_sheaf_20 : decode cX8_sheaf 20 = .ok (.iconst (-1), 1) := by decide +kernel
theorem dX8_sheaf_21 : decode cX8_sheaf 21 = .ok (.ireturn, 1) := by decide +kernel
theorem dX8_sheaf_22 : decode cX8_sheaf 22 = .ok (.iload_n 3, 1) := by decide +kernel
theorem dX8_sheaf_23 : decode cX8_sheaf 23 = .ok (.ifCond .ge 6, 3) := by decide +kernel
theorem dX8_sheaf_26 : decode cX8_sheaf 26 = .ok (.bipush (-14), 2) := by decide +kernel
theorem dX8_sheaf_28 : decode cX8_sheaf 28 = .ok (.ireturn, 1) := by decide +kernel
theorem dX8_sheaf_29 : decode cX8_sheaf 29 = .ok (.aload_n 0, 1) := by decide +kernel
theorem dX8_sheaf_30 : decode cX8_sheaf 30 = .ok (.getfield 20, 3) := by decide +kernel
theorem dX8_sheaf_33 : decode cX8_sheaf 33 = .ok (.iload_n 1, 1) := by decide +kernel
theorem dX8_sheaf_34 : decode cX8_sheaf 34 = .ok (.aaload, 1) := by decide +kernel
theorem dX8_sheaf_35 : decode cX8_sheaf 35 = .ok (.iload_n 2, 1) := by decide +kernel
theorem dX8_sheaf_36 : decode cX8_sheaf 36 = .ok (.iload_n 3, 1) := by decide +kernel
theorem dX8_sheaf_37 : decode cX8_sheaf 37 = .ok (.invokevirtual 57, 3) := by decide +kernel
theorem dX8_sheaf_40 : decode cX8_sheaf 40 = .ok (.iconst 1, 1) := by decide +kernel
theorem dX8_sheaf_41 : decode cX8_sheaf 41 = .ok (.ireturn, 1) := by decide +kernel
set_option maxRecDepth 20000 in
theorem ggX8_lay_X8_isSheaf : GoodIn wsX8_lay wsX8_isSheaf := goodIn_r _ [7] (by decide +kernel) (by decide +kernel)
set_option maxRecDepth 20000 in
theorem gX8_lay_X8_isSheaf : GoodIn wsX8_lay (va_wsS RX8 50 yX8_isSheaf wsX8_isSheaf) := goodIn_app (goodIn_of _ (by decide +kernel)) ggX8_lay_X8_isSheaf
set_option maxRecDepth 20000 in
theorem ggX8_lay_X5_put : GoodIn wsX8_lay wsX5_put := goodIn_r _ [12, 13, 14, 15, 21, 22, 23] (by decide +kernel) (by decide +kernel)
set_option maxRecDepth 20000 in
theorem gX8_lay_X5_put : GoodIn wsX8_lay (wsV RX8 65 RX5 yX5_put wsX5_put) := goodIn_app (goodIn_of _ (by decide +kernel)) ggX8_lay_X5_put
theorem dX8_lay_0 : decode cX8_lay 0 = .ok (.iload_n 1, 1) := by decide +kernel
theorem dX8_lay_1 : decode cX8_lay 1 = .ok (.invokestatic 50, 3) := by decide +kernel
theorem dX8_lay_4 : decode cX8_lay 4 = .ok (.ifCond .ne 5, 3) := by decide +kernel
theorem dX8_lay_7 : decode cX8_lay 7 = .ok (.iconst (-1), 1) := by decide +kernel
theorem dX8_lay_8 : decode cX8_lay 8 = .ok (.ireturn, 1) := by decide +kernel
theorem dX8_lay_9 : decode cX8_lay 9 = .ok (.aload_n 0, 1) := by decide +kernel
theorem dX8_lay_10 : decode cX8_lay 10 = .ok (.getfield 20, 3) := by decide +kernel
theorem dX8_lay_13 : decode cX8_lay 13 = .ok (.iload_n 1, 1) := by decide +kernel
theorem dX8_lay_14 : decode cX8_lay 14 = .ok (.aaload, 1) := by decide +kernel
theorem dX8_lay_15 : decode cX8_lay 15 = .ok (.astore 5, 2) := by decide +kernel
theorem dX8_lay_17 : decode cX8_lay 17 = .ok (.aload 5, 2) := by decide +kernel
theorem dX8_lay_19 : decode cX8_lay 19 = .ok (.getfield 61, 3) := by decide +kernel
theorem dX8_lay_22 : decode cX8_lay 22 = .ok (.iconst (-1), 1) := by decide +kernel
theorem dX8_lay_23 : decode cX8_lay 23 = .ok (.if_icmp .ne 6, 3) := by decide +kernel
theorem dX8_lay_26 : decode cX8_lay 26 = .ok (.bipush (-11), 2) := by decide +kernel
theorem dX8_lay_28 : decode cX8_lay 28 = .ok (.ireturn, 1) := by decide +kernel
theorem dX8_lay_29 : decode cX8_lay 29 = .ok (.iload_n 2, 1) := by decide +kernel
theorem dX8_lay_30 : decode cX8_lay 30 = .ok (.ifCond .lt 12, 3) := by decide +kernel
theorem dX8_lay_33 : decode cX8_lay 33 = .ok (.iload_n 2, 1) := by decide +kernel
theorem dX8_lay_34 : decode cX8_lay 34 = .ok (.aload 5, 2) := by decide +kernel
theorem dX8_lay_36 : decode cX8_lay 36 = .ok (.getfield 64, 3) := by decide +kernel
theorem dX8_lay_39 : decode cX8_lay 39 = .ok (.if_icmp .lt 6, 3) := by decide +kernel
theorem dX8_lay_42 : decode cX8_lay 42 = .ok (.bipush (-12), 2) := by decide +kernel
theorem dX8_lay_44 : decode cX8_lay 44 = .ok (.ireturn, 1) := by decide +kernel
theorem dX8_lay_45 : decode cX8_lay 45 = .ok (.aload 5, 2) := by decide +kernel
theorem dX8_lay_47 : decode cX8_lay 47 = .ok (.iload_n 2, 1) := by decide +kernel
theorem dX8_lay_48 : decode cX8_lay 48 = .ok (.lload_n 3, 1) := by decide +kernel
theorem dX8_lay_49 : decode cX8_lay 49 = .ok (.invokevirtual 65, 3) := by decide +kernel
theorem dX8_lay_52 : decode cX8_lay 52 = .ok (.iconst 1, 1) := by decide +kernel
theorem dX8_lay_53 : decode cX8_lay 53 = .ok (.ireturn, 1) := by decide +kernel
set_option maxRecDepth 20000 in
theorem ggX8_draw_X8_isSheaf : GoodIn wsX8_draw wsX8_isSheaf := goodIn_r _ [8] (by decide +kernel) (by decide +kernel)
set_option maxRecDepth 20000 in
theorem gX8_draw_X8_isSheaf : GoodIn wsX8_draw (va_wsS RX8 50 yX8_isSheaf wsX8_isSheaf) := goodIn_app (goodIn_of _ (by decide +kernel)) ggX8_draw_X8_isSheaf
set_option maxRecDepth 20000 in
theorem ggX8_draw_X8_isLane : GoodIn wsX8_draw wsX8_isLane := goodIn_r _ [11] (by decide +kernel) (by decide +kernel)
set_option maxRecDepth 20000 in
theorem gX8_draw_X8_isLane : GoodIn wsX8_draw (va_wsS RX8 54 yX8_isLane wsX8_isLane) := goodIn_app (goodIn_of _ (by decide +kernel)) ggX8_draw_X8_isLane
set_option maxRecDepth 20000 in
theorem ggX8_draw_X8_refusalOf : GoodIn wsX8_draw wsX8_refusalOf := goodIn_r _ [15, 16, 3, 4, 17, 18, 19, 20, 21, 22, 23, 24, 25, 7, 26, 27, 28, 29, 44, 45, 46, 39, 40, 41, 42, 43, 47, 48, 49, 50] (by decide +kernel) (by decide +kernel)
set_option maxRecDepth 20000 in
theorem gX8_draw_X8_refusalOf : GoodIn wsX8_draw (wsV RX8 68 RX8 yX8_refusalOf wsX8_refusalOf) := goodIn_app (goodIn_of _ (by decide +kernel)) ggX8_draw_X8_refusalOf
set_option maxRecDepth 20000 in
theorem ggX8_draw_X5_cell : GoodIn wsX8_draw wsX5_cell := goodIn_r _ [21, 22, 23, 44, 45, 46] (by decide +kernel) (by decide +kernel)
set_option maxRecDepth 20000 in
theorem gX8_draw_X5_cell : GoodIn wsX8_draw (wsV RX8 72 RX5 yX5_cell wsX5_cell) := goodIn_app (goodIn_of _ (by decide +kernel)) ggX8_draw_X5_cell
set_option maxRecDepth 20000 in
theorem ggX8_draw_X4_put : GoodIn wsX8_draw wsX4_put := goodIn_r _ [34, 35, 36, 37, 38, 47, 48, 49, 50] (by decide +kernel) (by decide +kernel)
set_option maxRecDepth 20000 in
theorem gX8_draw_X4_put : GoodIn wsX8_draw (wsV RX8 46 RX4 yX4_put wsX4_put) := goodIn_app (goodIn_of _ (by decide +kernel)) ggX8_draw_X4_put
theorem dX8_draw_0 : decode cX8_draw 0 = .ok (.iload_n 1, 1) := by decide +kernel
theorem dX8_draw_1 : decode cX8_draw 1 = .ok (.invokestatic 50, 3) := by decide +kernel
theorem dX8_draw_4 : decode cX8_draw 4 = .ok (.ifCond .eq 14, 3) := by decide +kernel
theorem dX8_draw_7 : decode cX8_draw 7 = .ok (.iload_n 2, 1) := by decide +kernel
theorem dX8_draw_8 : decode cX8_draw 8 = .ok (.invokestatic 54, 3) := by decide +kernel
theorem dX8_draw_11 : decode cX8_draw 11 = .ok (.ifCond .eq 7, 3) := by decide +kernel
theorem dX8_draw_14 : decode cX8_draw 14 = .ok (.iload_n 3, 1) := by decide +kernel
theorem dX8_draw_15 : decode cX8_draw 15 = .ok (.ifCond .ge 5, 3) := by decide +kernel
theorem dX8_draw_18 : decode cX8_draw 18 = .ok (.iconst (-1), 1) := by decide +kernel
theorem dX8_draw_19 : decode cX8_draw 19 = .ok (.ireturn, 1) := by decide +kernel
theorem dX8_draw_20 : decode cX8_draw 20 = .ok (.aload_n 0, 1) := by decide +kernel
theorem dX8_draw_21 : decode cX8_draw 21 = .ok (.getfield 20, 3) := by decide +kernel
theorem dX8_draw_24 : decode cX8_draw 24 = .ok (.iload_n 1, 1) := by decide +kernel
theorem dX8_draw_25 : decode cX8_draw 25 = .ok (.aaload, 1) := by decide +kernel
theorem dX8_draw_26 : decode cX8_draw 26 = .ok (.astore 4, 2) := by decide +kernel
theorem dX8_draw_28 : decode cX8_draw 28 = .ok (.aload 4, 2) := by decide +kernel
theorem dX8_draw_30 : decode cX8_draw 30 = .ok (.getfield 61, 3) := by decide +kernel
theorem dX8_draw_33 : decode cX8_draw 33 = .ok (.iconst (-1), 1) := by decide +kernel
theorem dX8_draw_34 : decode cX8_draw 34 = .ok (.if_icmp .ne 6, 3) := by decide +kernel
theorem dX8_draw_37 : decode cX8_draw 37 = .ok (.bipush (-11), 2) := by decide +kernel
theorem dX8_draw_39 : decode cX8_draw 39 = .ok (.ireturn, 1) := by decide +kernel
theorem dX8_draw_40 : decode cX8_draw 40 = .ok (.aload 4, 2) := by decide +kernel
theorem dX8_draw_42 : decode cX8_draw 42 = .ok (.getfield 61, 3) := by decide +kernel
theorem dX8_draw_45 : decode cX8_draw 45 = .ok (.iload_n 2, 1) := by decide +kernel
theorem dX8_draw_46 : decode cX8_draw 46 = .ok (.if_icmp .eq 6, 3) := by decide +kernel
theorem dX8_draw_49 : decode cX8_draw 49 = .ok (.bipush (-13), 2) := by decide +kernel
theorem dX8_draw_51 : decode cX8_draw 51 = .ok (.ireturn, 1) := by decide +kernel
theorem dX8_draw_52 : decode cX8_draw 52 = .ok (.iconst 0, 1) := by decide +kernel
theorem dX8_draw_53 : decode cX8_draw 53 = .ok (.istore 5, 2) := by decide +kernel
theorem dX8_draw_55 : decode cX8_draw 55 = .ok (.iload 5, 2) := by decide +kernel
theorem dX8_draw_57 : decode cX8_draw 57 = .ok (.iload_n 3, 1) := by decide +kernel
theorem dX8_draw_58 : decode cX8_draw 58 = .ok (.if_icmp .ge 27, 3) := by decide +kernel
