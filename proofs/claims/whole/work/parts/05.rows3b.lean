set_option maxRecDepth 20000 in
theorem ggX9_number_X9_in : GoodIn wsX9_number wsX9_in := goodIn_r _ [12] (by decide +kernel) (by decide +kernel)
set_option maxRecDepth 20000 in
theorem gX9_number_X9_in : GoodIn wsX9_number (va_wsS RX9 60 yX9_in wsX9_in) := goodIn_app (goodIn_of _ (by decide +kernel)) ggX9_number_X9_in
set_option maxRecDepth 20000 in
theorem ggX9_number_X9_layRule : GoodIn wsX9_number wsX9_layRule := goodIn_p _ [16, 21, 25, 29, 35, 39] rfl (by decide +kernel)
set_option maxRecDepth 20000 in
theorem gX9_number_X9_layRule : GoodIn wsX9_number (wsV RX9 178 RX9 yX9_layRule wsX9_layRule) := goodIn_app (goodIn_of _ (by decide +kernel)) ggX9_number_X9_layRule
theorem dX9_number_0 : decode cX9_number 0 = .ok (.aload_n 0, 1) := by decide +kernel
theorem dX9_number_1 : decode cX9_number 1 = .ok (.iload_n 1, 1) := by decide +kernel
theorem dX9_number_2 : decode cX9_number 2 = .ok (.invokevirtual 157, 3) := by decide +kernel
theorem dX9_number_5 : decode cX9_number 5 = .ok (.ifCond .eq 15, 3) := by decide +kernel
theorem dX9_number_8 : decode cX9_number 8 = .ok (.iload_n 2, 1) := by decide +kernel
theorem dX9_number_9 : decode cX9_number 9 = .ok (.i2l, 1) := by decide +kernel
theorem dX9_number_10 : decode cX9_number 10 = .ok (.lconst 0, 1) := by decide +kernel
theorem dX9_number_11 : decode cX9_number 11 = .ok (.ldc2_w 72, 3) := by decide +kernel
theorem dX9_number_14 : decode cX9_number 14 = .ok (.invokestatic 60, 3) := by decide +kernel
theorem dX9_number_17 : decode cX9_number 17 = .ok (.ifCond .ne 6, 3) := by decide +kernel
theorem dX9_number_20 : decode cX9_number 20 = .ok (.ldc 177, 2) := by decide +kernel
theorem dX9_number_22 : decode cX9_number 22 = .ok (.ireturn, 1) := by decide +kernel
theorem dX9_number_23 : decode cX9_number 23 = .ok (.aload_n 0, 1) := by decide +kernel
theorem dX9_number_24 : decode cX9_number 24 = .ok (.iload_n 1, 1) := by decide +kernel
theorem dX9_number_25 : decode cX9_number 25 = .ok (.invokevirtual 178, 3) := by decide +kernel
theorem dX9_number_28 : decode cX9_number 28 = .ok (.aload_n 0, 1) := by decide +kernel
theorem dX9_number_29 : decode cX9_number 29 = .ok (.getfield 53, 3) := by decide +kernel
theorem dX9_number_32 : decode cX9_number 32 = .ok (.iload_n 2, 1) := by decide +kernel
theorem dX9_number_33 : decode cX9_number 33 = .ok (.iaload, 1) := by decide +kernel
theorem dX9_number_34 : decode cX9_number 34 = .ok (.ireturn, 1) := by decide +kernel
set_option maxRecDepth 20000 in
theorem ggX9_rule_X9_is : GoodIn wsX9_rule wsX9_is := goodIn_r _ [10, 11, 12, 13, 9, 14, 45, 46, 47, 48, 49, 50, 51, 52, 53, 54, 55, 56, 57, 58, 59, 60, 61, 62, 63, 64, 65, 66, 67, 68] (by decide +kernel) (by decide +kernel)
set_option maxRecDepth 20000 in
theorem gX9_rule_X9_is : GoodIn wsX9_rule (wsV RX9 157 RX9 yX9_is wsX9_is) := goodIn_app (goodIn_of _ (by decide +kernel)) ggX9_rule_X9_is
set_option maxRecDepth 20000 in
theorem ggX9_rule_X9_in : GoodIn wsX9_rule wsX9_in := goodIn_r _ [14] (by decide +kernel) (by decide +kernel)
set_option maxRecDepth 20000 in
theorem gX9_rule_X9_in : GoodIn wsX9_rule (va_wsS RX9 60 yX9_in wsX9_in) := goodIn_app (goodIn_of _ (by decide +kernel)) ggX9_rule_X9_in
set_option maxRecDepth 20000 in
theorem ggX9_rule_X9_layRule : GoodIn wsX9_rule wsX9_layRule := goodIn_p _ [18, 23, 27, 31, 37, 41] rfl (by decide +kernel)
set_option maxRecDepth 20000 in
theorem gX9_rule_X9_layRule : GoodIn wsX9_rule (wsV RX9 178 RX9 yX9_layRule wsX9_layRule) := goodIn_app (goodIn_of _ (by decide +kernel)) ggX9_rule_X9_layRule
theorem dX9_rule_0 : decode cX9_rule 0 = .ok (.aload_n 0, 1) := by decide +kernel
theorem dX9_rule_1 : decode cX9_rule 1 = .ok (.iload_n 1, 1) := by decide +kernel
theorem dX9_rule_2 : decode cX9_rule 2 = .ok (.invokevirtual 157, 3) := by decide +kernel
theorem dX9_rule_5 : decode cX9_rule 5 = .ok (.ifCond .eq 17, 3) := by decide +kernel
theorem dX9_rule_8 : decode cX9_rule 8 = .ok (.iload_n 2, 1) := by decide +kernel
theorem dX9_rule_9 : decode cX9_rule 9 = .ok (.i2l, 1) := by decide +kernel
theorem dX9_rule_10 : decode cX9_rule 10 = .ok (.ldc2_w 182, 3) := by decide +kernel
theorem dX9_rule_13 : decode cX9_rule 13 = .ok (.ldc2_w 168, 3) := by decide +kernel
theorem dX9_rule_16 : decode cX9_rule 16 = .ok (.invokestatic 60, 3) := by decide +kernel
theorem dX9_rule_19 : decode cX9_rule 19 = .ok (.ifCond .ne 7, 3) := by decide +kernel
theorem dX9_rule_22 : decode cX9_rule 22 = .ok (.ldc2_w 184, 3) := by decide +kernel
theorem dX9_rule_25 : decode cX9_rule 25 = .ok (.lreturn, 1) := by decide +kernel
theorem dX9_rule_26 : decode cX9_rule 26 = .ok (.aload_n 0, 1) := by decide +kernel
theorem dX9_rule_27 : decode cX9_rule 27 = .ok (.iload_n 1, 1) := by decide +kernel
theorem dX9_rule_28 : decode cX9_rule 28 = .ok (.invokevirtual 178, 3) := by decide +kernel
theorem dX9_rule_31 : decode cX9_rule 31 = .ok (.aload_n 0, 1) := by decide +kernel
theorem dX9_rule_32 : decode cX9_rule 32 = .ok (.getfield 53, 3) := by decide +kernel
theorem dX9_rule_35 : decode cX9_rule 35 = .ok (.iconst 3, 1) := by decide +kernel
theorem dX9_rule_36 : decode cX9_rule 36 = .ok (.iaload, 1) := by decide +kernel
theorem dX9_rule_37 : decode cX9_rule 37 = .ok (.i2l, 1) := by decide +kernel
theorem dX9_rule_38 : decode cX9_rule 38 = .ok (.lstore_n 3, 1) := by decide +kernel
theorem dX9_rule_39 : decode cX9_rule 39 = .ok (.iconst 2, 1) := by decide +kernel
theorem dX9_rule_40 : decode cX9_rule 40 = .ok (.istore 5, 2) := by decide +kernel
theorem dX9_rule_42 : decode cX9_rule 42 = .ok (.iload 5, 2) := by decide +kernel
theorem dX9_rule_44 : decode cX9_rule 44 = .ok (.ifCond .lt 23, 3) := by decide +kernel
theorem dX9_rule_47 : decode cX9_rule 47 = .ok (.lload_n 3, 1) := by decide +kernel
theorem dX9_rule_48 : decode cX9_rule 48 = .ok (.iload_n 2, 1) := by decide +kernel
theorem dX9_rule_49 : decode cX9_rule 49 = .ok (.i2l, 1) := by decide +kernel
theorem dX9_rule_50 : decode cX9_rule 50 = .ok (.lmul, 1) := by decide +kernel
theorem dX9_rule_51 : decode cX9_rule 51 = .ok (.aload_n 0, 1) := by decide +kernel
theorem dX9_rule_52 : decode cX9_rule 52 = .ok (.getfield 53, 3) := by decide +kernel
theorem dX9_rule_55 : decode cX9_rule 55 = .ok (.iload 5, 2) := by decide +kernel
theorem dX9_rule_57 : decode cX9_rule 57 = .ok (.iaload, 1) := by decide +kernel
theorem dX9_rule_58 : decode cX9_rule 58 = .ok (.i2l, 1) := by decide +kernel
theorem dX9_rule_59 : decode cX9_rule 59 = .ok (.ladd, 1) := by decide +kernel
theorem dX9_rule_60 : decode cX9_rule 60 = .ok (.lstore_n 3, 1) := by decide +kernel
theorem dX9_rule_61 : decode cX9_rule 61 = .ok (.iinc 5 (-1), 3) := by decide +kernel
theorem dX9_rule_64 : decode cX9_rule 64 = .ok (.goto (-22), 3) := by decide +kernel
theorem dX9_rule_67 : decode cX9_rule 67 = .ok (.lload_n 3, 1) := by decide +kernel
theorem dX9_rule_68 : decode cX9_rule 68 = .ok (.ldc2_w 186, 3) := by decide +kernel
theorem dX9_rule_71 : decode cX9_rule 71 = .ok (.ldiv, 1) := by decide +kernel
theorem dX9_rule_72 : decode cX9_rule 72 = .ok (.lreturn, 1) := by decide +kernel
theorem dX9_chosen_0 : decode cX9_chosen 0 = .ok (.iconst 1, 1) := by decide +kernel
theorem dX9_chosen_1 : decode cX9_chosen 1 = .ok (.istore_n 2, 1) := by decide +kernel
theorem dX9_chosen_2 : decode cX9_chosen 2 = .ok (.iconst 1, 1) := by decide +kernel
theorem dX9_chosen_3 : decode cX9_chosen 3 = .ok (.istore_n 3, 1) := by decide +kernel
theorem dX9_chosen_4 : decode cX9_chosen 4 = .ok (.iload_n 3, 1) := by decide +kernel
theorem dX9_chosen_5 : decode cX9_chosen 5 = .ok (.iload_n 1, 1) := by decide +kernel
theorem dX9_chosen_6 : decode cX9_chosen 6 = .ok (.if_icmp .gt 19, 3) := by decide +kernel
theorem dX9_chosen_9 : decode cX9_chosen 9 = .ok (.iload_n 2, 1) := by decide +kernel
theorem dX9_chosen_10 : decode cX9_chosen 10 = .ok (.iload_n 0, 1) := by decide +kernel
theorem dX9_chosen_11 : decode cX9_chosen 11 = .ok (.iload_n 3, 1) := by decide +kernel
theorem dX9_chosen_12 : decode cX9_chosen 12 = .ok (.isub, 1) := by decide +kernel
theorem dX9_chosen_13 : decode cX9_chosen 13 = .ok (.iconst 1, 1) := by decide +kernel
theorem dX9_chosen_14 : decode cX9_chosen 14 = .ok (.iadd, 1) := by decide +kernel
theorem dX9_chosen_15 : decode cX9_chosen 15 = .ok (.imul, 1) := by decide +kernel
theorem dX9_chosen_16 : decode cX9_chosen 16 = .ok (.iload_n 3, 1) := by decide +kernel
theorem dX9_chosen_17 : decode cX9_chosen 17 = .ok (.idiv, 1) := by decide +kernel
theorem dX9_chosen_18 : decode cX9_chosen 18 = .ok (.istore_n 2, 1) := by decide +kernel
theorem dX9_chosen_19 : decode cX9_chosen 19 = .ok (.iinc 3 1, 3) := by decide +kernel
theorem dX9_chosen_22 : decode cX9_chosen 22 = .ok (.goto (-18), 3) := by decide +kernel
theorem dX9_chosen_25 : decode cX9_chosen 25 = .ok (.iload_n 2, 1) := by decide +kernel
theorem dX9_chosen_26 : decode cX9_chosen 26 = .ok (.ireturn, 1) := by decide +kernel
set_option maxRecDepth 20000 in
theorem ggX9_stairs_X9_is : GoodIn wsX9_stairs wsX9_is := goodIn_r _ [6, 7, 8, 9, 5, 10, 39, 40, 41, 42, 43, 44, 45, 46, 47, 48, 49, 50, 51, 52, 53, 54, 55, 56, 57, 58, 59, 60, 61, 62] (by decide +kernel) (by decide +kernel)
set_option maxRecDepth 20000 in
theorem gX9_stairs_X9_is : GoodIn wsX9_stairs (wsV RX9 157 RX9 yX9_is wsX9_is) := goodIn_app (goodIn_of _ (by decide +kernel)) ggX9_stairs_X9_is
set_option maxRecDepth 20000 in
theorem ggX9_stairs_X9_in : GoodIn wsX9_stairs wsX9_in := goodIn_r _ [10] (by decide +kernel) (by decide +kernel)
set_option maxRecDepth 20000 in
theorem gX9_stairs_X9_in : GoodIn wsX9_stairs (va_wsS RX9 60 yX9_in wsX9_in) := goodIn_app (goodIn_of _ (by decide +kernel)) ggX9_stairs_X9_in
set_option maxRecDepth 20000 in
theorem ggX9_stairs_X9_chosen : GoodIn wsX9_stairs wsX9_chosen := goodIn_r _ [13] (by decide +kernel) (by decide +kernel)
set_option maxRecDepth 20000 in
theorem gX9_stairs_X9_chosen : GoodIn wsX9_stairs (va_wsS RX9 188 yX9_chosen wsX9_chosen) := goodIn_app (goodIn_of _ (by decide +kernel)) ggX9_stairs_X9_chosen
set_option maxRecDepth 20000 in
theorem ggX9_stairs_X9_countOf : GoodIn wsX9_stairs wsX9_countOf := goodIn_p _ [17, 21, 25, 31, 35] rfl (by decide +kernel)
set_option maxRecDepth 20000 in
theorem gX9_stairs_X9_countOf : GoodIn wsX9_stairs (wsV RX9 174 RX9 yX9_countOf wsX9_countOf) := goodIn_app (goodIn_of _ (by decide +kernel)) ggX9_stairs_X9_countOf
theorem dX9_stairs_0 : decode cX9_stairs 0 = .ok (.aload_n 0, 1) := by decide +kernel
theorem dX9_stairs_1 : decode cX9_stairs 1 = .ok (.iload_n 1, 1) := by decide +kernel
theorem dX9_stairs_2 : decode cX9_stairs 2 = .ok (.invokevirtual 157, 3) := by decide +kernel
theorem dX9_stairs_5 : decode cX9_stairs 5 = .ok (.ifCond .eq 19, 3) := by decide +kernel
theorem dX9_stairs_8 : decode cX9_stairs 8 = .ok (.iload_n 2, 1) := by decide +kernel
theorem dX9_stairs_9 : decode cX9_stairs 9 = .ok (.i2l, 1) := by decide +kernel
theorem dX9_stairs_10 : decode cX9_stairs 10 = .ok (.lconst 0, 1) := by decide +kernel
theorem dX9_stairs_11 : decode cX9_stairs 11 = .ok (.aload_n 0, 1) := by decide +kernel
theorem dX9_stairs_12 : decode cX9_stairs 12 = .ok (.getfield 23, 3) := by decide +kernel
theorem dX9_stairs_15 : decode cX9_stairs 15 = .ok (.iload_n 1, 1) := by decide +kernel
theorem dX9_stairs_16 : decode cX9_stairs 16 = .ok (.iaload, 1) := by decide +kernel
theorem dX9_stairs_17 : decode cX9_stairs 17 = .ok (.i2l, 1) := by decide +kernel
theorem dX9_stairs_18 : decode cX9_stairs 18 = .ok (.invokestatic 60, 3) := by decide +kernel
theorem dX9_stairs_21 : decode cX9_stairs 21 = .ok (.ifCond .ne 5, 3) := by decide +kernel
theorem dX9_stairs_24 : decode cX9_stairs 24 = .ok (.iconst (-1), 1) := by decide +kernel
theorem dX9_stairs_25 : decode cX9_stairs 25 = .ok (.ireturn, 1) := by decide +kernel
theorem dX9_stairs_26 : decode cX9_stairs 26 = .ok (.iconst 0, 1) := by decide +kernel
theorem dX9_stairs_27 : decode cX9_stairs 27 = .ok (.istore_n 3, 1) := by decide +kernel
theorem dX9_stairs_28 : decode cX9_stairs 28 = .ok (.iconst 0, 1) := by decide +kernel
theorem dX9_stairs_29 : decode cX9_stairs 29 = .ok (.istore 4, 2) := by decide +kernel
theorem dX9_stairs_31 : decode cX9_stairs 31 = .ok (.iload 4, 2) := by decide +kernel
theorem dX9_stairs_33 : decode cX9_stairs 33 = .ok (.iload_n 2, 1) := by decide +kernel
theorem dX9_stairs_34 : decode cX9_stairs 34 = .ok (.if_icmp .gt 48, 3) := by decide +kernel
theorem dX9_stairs_37 : decode cX9_stairs 37 = .ok (.iload_n 3, 1) := by decide +kernel
theorem dX9_stairs_38 : decode cX9_stairs 38 = .ok (.iload 4, 2) := by decide +kernel
theorem dX9_stairs_40 : decode cX9_stairs 40 = .ok (.iconst 2, 1) := by decide +kernel
theorem dX9_stairs_41 : decode cX9_stairs 41 = .ok (.irem, 1) := by decide +kernel
theorem dX9_stairs_42 : decode cX9_stairs 42 = .ok (.ifCond .ne 7, 3) := by decide +kernel
theorem dX9_stairs_45 : decode cX9_stairs 45 = .ok (.iconst 1, 1) := by decide +kernel
theorem dX9_stairs_46 : decode cX9_stairs 46 = .ok (.goto 4, 3) := by decide +kernel
theorem dX9_stairs_49 : decode cX9_stairs 49 = .ok (.iconst (-1), 1) := by decide +kernel
theorem dX9_stairs_50 : decode cX9_stairs 50 = .ok (.aload_n 0, 1) := by decide +kernel
theorem dX9_stairs_51 : decode cX9_stairs 51 = .ok (.getfield 23, 3) := by decide +kernel
theorem dX9_stairs_54 : decode cX9_stairs 54 = .ok (.iload_n 1, 1) := by decide +kernel
theorem dX9_stairs_55 : decode cX9_stairs 55 = .ok (.iaload, 1) := by decide +kernel
theorem dX9_stairs_56 : decode cX9_stairs 56 = .ok (.iconst 1, 1) := by decide +kernel
theorem dX9_stairs_57 : decode cX9_stairs 57 = .ok (.iadd, 1) := by decide +kernel
theorem dX9_stairs_58 : decode cX9_stairs 58 = .ok (.iload 4, 2) := by decide +kernel
theorem dX9_stairs_60 : decode cX9_stairs 60 = .ok (.invokestatic 188, 3) := by decide +kernel
theorem dX9_stairs_63 : decode cX9_stairs 63 = .ok (.imul, 1) := by decide +kernel
theorem dX9_stairs_64 : decode cX9_stairs 64 = .ok (.aload_n 0, 1) := by decide +kernel
theorem dX9_stairs_65 : decode cX9_stairs 65 = .ok (.iload_n 1, 1) := by decide +kernel
theorem dX9_stairs_66 : decode cX9_stairs 66 = .ok (.iload_n 2, 1) := by decide +kernel
theorem dX9_stairs_67 : decode cX9_stairs 67 = .ok (.iload 4, 2) := by decide +kernel
theorem dX9_stairs_69 : decode cX9_stairs 69 = .ok (.isub, 1) := by decide +kernel
theorem dX9_stairs_70 : decode cX9_stairs 70 = .ok (.invokevirtual 174, 3) := by decide +kernel
theorem dX9_stairs_73 : decode cX9_stairs 73 = .ok (.imul, 1) := by decide +kernel
theorem dX9_stairs_74 : decode cX9_stairs 74 = .ok (.iadd, 1) := by decide +kernel
theorem dX9_stairs_75 : decode cX9_stairs 75 = .ok (.istore_n 3, 1) := by decide +kernel
theorem dX9_stairs_76 : decode cX9_stairs 76 = .ok (.iinc 4 1, 3) := by decide +kernel
theorem dX9_stairs_79 : decode cX9_stairs 79 = .ok (.goto (-48), 3) := by decide +kernel
theorem dX9_stairs_82 : decode cX9_stairs 82 = .ok (.iload_n 3, 1) := by decide +kernel
theorem dX9_stairs_83 : decode cX9_stairs 83 = .ok (.ireturn, 1) := by decide +kernel
set_option maxRecDepth 20000 in
theorem ggX9_gone_X9_least : GoodIn wsX9_gone wsX9_least := goodIn_r _ [8, 9, 10, 23, 24, 25, 26, 27, 28, 29, 30, 31, 32, 33, 34, 35, 36, 37, 38, 39, 40, 41, 42, 43, 44, 45, 46] (by decide +kernel) (by decide +kernel)
set_option maxRecDepth 20000 in
theorem gX9_gone_X9_least : GoodIn wsX9_gone (wsV RX9 143 RX9 yX9_least wsX9_least) := goodIn_app (goodIn_of _ (by decide +kernel)) ggX9_gone_X9_least
set_option maxRecDepth 20000 in
theorem ggX9_gone_X9_greatest : GoodIn wsX9_gone wsX9_greatest := goodIn_r _ [14, 9, 10, 23, 24, 25, 26, 27, 28, 29, 30, 31, 32, 33, 34, 35, 36, 37, 38, 39, 40, 41, 42, 43, 44, 45, 46] (by decide +kernel) (by decide +kernel)
set_option maxRecDepth 20000 in
theorem gX9_gone_X9_greatest : GoodIn wsX9_gone (wsV RX9 146 RX9 yX9_greatest wsX9_greatest) := goodIn_app (goodIn_of _ (by decide +kernel)) ggX9_gone_X9_greatest
set_option maxRecDepth 20000 in
theorem ggX9_gone_X9_where : GoodIn wsX9_gone wsX9_where := goodIn_r _ [18, 10, 19, 20, 21, 22, 23, 24, 25, 26, 27, 28, 29, 30, 31, 32, 33, 34, 35, 36, 37, 38, 39, 40, 41, 42, 43, 44, 45, 46] (by decide +kernel) (by decide +kernel)
set_option maxRecDepth 20000 in
theorem gX9_gone_X9_where : GoodIn wsX9_gone (wsV RX9 149 RX9 yX9_where wsX9_where) := goodIn_app (goodIn_of _ (by decide +kernel)) ggX9_gone_X9_where
theorem dX9_gone_0 : decode cX9_gone 0 = .ok (.iconst 0, 1) := by decide +kernel
theorem dX9_gone_1 : decode cX9_gone 1 = .ok (.istore 8, 2) := by decide +kernel
theorem dX9_gone_3 : decode cX9_gone 3 = .ok (.iload_n 2, 1) := by decide +kernel
theorem dX9_gone_4 : decode cX9_gone 4 = .ok (.aload_n 0, 1) := by decide +kernel
theorem dX9_gone_5 : decode cX9_gone 5 = .ok (.iload_n 1, 1) := by decide +kernel
theorem dX9_gone_6 : decode cX9_gone 6 = .ok (.iconst 1, 1) := by decide +kernel
theorem dX9_gone_7 : decode cX9_gone 7 = .ok (.invokevirtual 143, 3) := by decide +kernel
theorem dX9_gone_10 : decode cX9_gone 10 = .ok (.imul, 1) := by decide +kernel
theorem dX9_gone_11 : decode cX9_gone 11 = .ok (.istore 9, 2) := by decide +kernel
theorem dX9_gone_13 : decode cX9_gone 13 = .ok (.iload_n 2, 1) := by decide +kernel
theorem dX9_gone_14 : decode cX9_gone 14 = .ok (.aload_n 0, 1) := by decide +kernel
theorem dX9_gone_15 : decode cX9_gone 15 = .ok (.iload_n 1, 1) := by decide +kernel
theorem dX9_gone_16 : decode cX9_gone 16 = .ok (.iconst 2, 1) := by decide +kernel
theorem dX9_gone_17 : decode cX9_gone 17 = .ok (.invokevirtual 143, 3) := by decide +kernel
theorem dX9_gone_20 : decode cX9_gone 20 = .ok (.imul, 1) := by decide +kernel
theorem dX9_gone_21 : decode cX9_gone 21 = .ok (.istore 10, 2) := by decide +kernel
theorem dX9_gone_23 : decode cX9_gone 23 = .ok (.iload_n 2, 1) := by decide +kernel
theorem dX9_gone_24 : decode cX9_gone 24 = .ok (.aload_n 0, 1) := by decide +kernel
theorem dX9_gone_25 : decode cX9_gone 25 = .ok (.iload_n 1, 1) := by decide +kernel
theorem dX9_gone_26 : decode cX9_gone 26 = .ok (.iconst 0, 1) := by decide +kernel
theorem dX9_gone_27 : decode cX9_gone 27 = .ok (.invokevirtual 146, 3) := by decide +kernel
theorem dX9_gone_30 : decode cX9_gone 30 = .ok (.imul, 1) := by decide +kernel
theorem dX9_gone_31 : decode cX9_gone 31 = .ok (.istore 11, 2) := by decide +kernel
theorem dX9_gone_33 : decode cX9_gone 33 = .ok (.iload_n 2, 1) := by decide +kernel
theorem dX9_gone_34 : decode cX9_gone 34 = .ok (.aload_n 0, 1) := by decide +kernel
theorem dX9_gone_35 : decode cX9_gone 35 = .ok (.iload_n 1, 1) := by decide +kernel
theorem dX9_gone_36 : decode cX9_gone 36 = .ok (.iconst 1, 1) := by decide +kernel
theorem dX9_gone_37 : decode cX9_gone 37 = .ok (.invokevirtual 146, 3) := by decide +kernel
theorem dX9_gone_40 : decode cX9_gone 40 = .ok (.imul, 1) := by decide +kernel
theorem dX9_gone_41 : decode cX9_gone 41 = .ok (.istore 12, 2) := by decide +kernel
theorem dX9_gone_43 : decode cX9_gone 43 = .ok (.iload_n 2, 1) := by decide +kernel
theorem dX9_gone_44 : decode cX9_gone 44 = .ok (.aload_n 0, 1) := by decide +kernel
theorem dX9_gone_45 : decode cX9_gone 45 = .ok (.iload_n 1, 1) := by decide +kernel
theorem dX9_gone_46 : decode cX9_gone 46 = .ok (.iconst 2, 1) := by decide +kernel
theorem dX9_gone_47 : decode cX9_gone 47 = .ok (.invokevirtual 146, 3) := by decide +kernel
theorem dX9_gone_50 : decode cX9_gone 50 = .ok (.imul, 1) := by decide +kernel
theorem dX9_gone_51 : decode cX9_gone 51 = .ok (.istore 13, 2) := by decide +kernel
theorem dX9_gone_53 : decode cX9_gone 53 = .ok (.iload_n 2, 1) := by decide +kernel
theorem dX9_gone_54 : decode cX9_gone 54 = .ok (.aload_n 0, 1) := by decide +kernel
theorem dX9_gone_55 : decode cX9_gone 55 = .ok (.iload_n 1, 1) := by decide +kernel
theorem dX9_gone_56 : decode cX9_gone 56 = .ok (.iconst 0, 1) := by decide +kernel
theorem dX9_gone_57 : decode cX9_gone 57 = .ok (.invokevirtual 143, 3) := by decide +kernel
theorem dX9_gone_60 : decode cX9_gone 60 = .ok (.imul, 1) := by decide +kernel
theorem dX9_gone_61 : decode cX9_gone 61 = .ok (.istore 14, 2) := by decide +kernel
theorem dX9_gone_63 : decode cX9_gone 63 = .ok (.iload 14, 2) := by decide +kernel
theorem dX9_gone_65 : decode cX9_gone 65 = .ok (.iload 11, 2) := by decide +kernel
theorem dX9_gone_67 : decode cX9_gone 67 = .ok (.if_icmp .gt 121, 3) := by decide +kernel
theorem dX9_gone_70 : decode cX9_gone 70 = .ok (.iload 9, 2) := by decide +kernel
theorem dX9_gone_72 : decode cX9_gone 72 = .ok (.istore 15, 2) := by decide +kernel
theorem dX9_gone_74 : decode cX9_gone 74 = .ok (.iload 15, 2) := by decide +kernel
theorem dX9_gone_76 : decode cX9_gone 76 = .ok (.iload 12, 2) := by decide +kernel
theorem dX9_gone_78 : decode cX9_gone 78 = .ok (.if_icmp .gt 104, 3) := by decide +kernel
theorem dX9_gone_81 : decode cX9_gone 81 = .ok (.iload 10, 2) := by decide +kernel
theorem dX9_gone_83 : decode cX9_gone 83 = .ok (.istore 16, 2) := by decide +kernel
theorem dX9_gone_85 : decode cX9_gone 85 = .ok (.iload 16, 2) := by decide +kernel
theorem dX9_gone_87 : decode cX9_gone 87 = .ok (.iload 13, 2) := by decide +kernel
theorem dX9_gone_89 : decode cX9_gone 89 = .ok (.if_icmp .gt 87, 3) := by decide +kernel
theorem dX9_gone_92 : decode cX9_gone 92 = .ok (.aload_n 0, 1) := by decide +kernel
theorem dX9_gone_93 : decode cX9_gone 93 = .ok (.iload_n 1, 1) := by decide +kernel
theorem dX9_gone_94 : decode cX9_gone 94 = .ok (.iload 14, 2) := by decide +kernel
theorem dX9_gone_96 : decode cX9_gone 96 = .ok (.i2l, 1) := by decide +kernel
theorem dX9_gone_97 : decode cX9_gone 97 = .ok (.iload 15, 2) := by decide +kernel
theorem dX9_gone_99 : decode cX9_gone 99 = .ok (.i2l, 1) := by decide +kernel
theorem dX9_gone_100 : decode cX9_gone 100 = .ok (.iload 16, 2) := by decide +kernel
theorem dX9_gone_102 : decode cX9_gone 102 = .ok (.i2l, 1) := by decide +kernel
theorem dX9_gone_103 : decode cX9_gone 103 = .ok (.iload_n 2, 1) := by decide +kernel
theorem dX9_gone_104 : decode cX9_gone 104 = .ok (.i2l, 1) := by decide +kernel
theorem dX9_gone_105 : decode cX9_gone 105 = .ok (.invokevirtual 149, 3) := by decide +kernel
theorem dX9_gone_108 : decode cX9_gone 108 = .ok (.ifCond .le 62, 3) := by decide +kernel
theorem dX9_gone_111 : decode cX9_gone 111 = .ok (.iload 4, 2) := by decide +kernel
theorem dX9_gone_113 : decode cX9_gone 113 = .ok (.ifCond .eq 27, 3) := by decide +kernel
theorem dX9_gone_116 : decode cX9_gone 116 = .ok (.iload 14, 2) := by decide +kernel
theorem dX9_gone_118 : decode cX9_gone 118 = .ok (.iload 5, 2) := by decide +kernel
theorem dX9_gone_120 : decode cX9_gone 120 = .ok (.if_icmp .ne 47, 3) := by decide +kernel
theorem dX9_gone_123 : decode cX9_gone 123 = .ok (.iload 15, 2) := by decide +kernel
theorem dX9_gone_125 : decode cX9_gone 125 = .ok (.iload 6, 2) := by decide +kernel
theorem dX9_gone_127 : decode cX9_gone 127 = .ok (.if_icmp .ne 40, 3) := by decide +kernel
theorem dX9_gone_130 : decode cX9_gone 130 = .ok (.iload 16, 2) := by decide +kernel
theorem dX9_gone_132 : decode cX9_gone 132 = .ok (.iload 7, 2) := by decide +kernel
theorem dX9_gone_134 : decode cX9_gone 134 = .ok (.if_icmp .ne 33, 3) := by decide +kernel
theorem dX9_gone_137 : decode cX9_gone 137 = .ok (.goto 9, 3) := by decide +kernel
theorem dX9_gone_140 : decode cX9_gone 140 = .ok (.iload 8, 2) := by decide +kernel
theorem dX9_gone_142 : decode cX9_gone 142 = .ok (.iload_n 3, 1) := by decide +kernel
theorem dX9_gone_143 : decode cX9_gone 143 = .ok (.if_icmp .ne 24, 3) := by decide +kernel
theorem dX9_gone_146 : decode cX9_gone 146 = .ok (.aload_n 0, 1) := by decide +kernel
theorem dX9_gone_147 : decode cX9_gone 147 = .ok (.iload 14, 2) := by decide +kernel
theorem dX9_gone_149 : decode cX9_gone 149 = .ok (.putfield 191, 3) := by decide +kernel
theorem dX9_gone_152 : decode cX9_gone 152 = .ok (.aload_n 0, 1) := by decide +kernel
theorem dX9_gone_153 : decode cX9_gone 153 = .ok (.iload 15, 2) := by decide +kernel
theorem dX9_gone_155 : decode cX9_gone 155 = .ok (.putfield 194, 3) := by decide +kernel
theorem dX9_gone_158 : decode cX9_gone 158 = .ok (.aload_n 0, 1) := by decide +kernel
theorem dX9_gone_159 : decode cX9_gone 159 = .ok (.iload 16, 2) := by decide +kernel
theorem dX9_gone_161 : decode cX9_gone 161 = .ok (.putfield 197, 3) := by decide +kernel
theorem dX9_gone_164 : decode cX9_gone 164 = .ok (.iload 8, 2) := by decide +kernel
theorem dX9_gone_166 : decode cX9_gone 166 = .ok (.ireturn, 1) := by decide +kernel
theorem dX9_gone_167 : decode cX9_gone 167 = .ok (.iinc 8 1, 3) := by decide +kernel
theorem dX9_gone_170 : decode cX9_gone 170 = .ok (.iinc 16 1, 3) := by decide +kernel
theorem dX9_gone_173 : decode cX9_gone 173 = .ok (.goto (-88), 3) := by decide +kernel
theorem dX9_gone_176 : decode cX9_gone 176 = .ok (.iinc 15 1, 3) := by decide +kernel
theorem dX9_gone_179 : decode cX9_gone 179 = .ok (.goto (-105), 3) := by decide +kernel
theorem dX9_gone_182 : decode cX9_gone 182 = .ok (.iinc 14 1, 3) := by decide +kernel
theorem dX9_gone_185 : decode cX9_gone 185 = .ok (.goto (-122), 3) := by decide +kernel
theorem dX9_gone_188 : decode cX9_gone 188 = .ok (.bipush (-4), 2) := by decide +kernel
theorem dX9_gone_190 : decode cX9_gone 190 = .ok (.ireturn, 1) := by decide +kernel
set_option maxRecDepth 20000 in
theorem ggX9_point__X9_is : GoodIn wsX9_point_ wsX9_is := goodIn_r _ [10, 11, 12, 13, 9, 14, 37, 38, 39, 40, 41, 42, 43, 44, 45, 46, 47, 48, 49, 50, 51, 52, 53, 54, 55, 56, 57, 58, 59, 60] (by decide +kernel) (by decide +kernel)
set_option maxRecDepth 20000 in
theorem gX9_point__X9_is : GoodIn wsX9_point_ (wsV RX9 157 RX9 yX9_is wsX9_is) := goodIn_app (goodIn_of _ (by decide +kernel)) ggX9_point__X9_is
set_option maxRecDepth 20000 in
theorem ggX9_point__X9_in : GoodIn wsX9_point_ wsX9_in := goodIn_r _ [14] (by decide +kernel) (by decide +kernel)
set_option maxRecDepth 20000 in
theorem gX9_point__X9_in : GoodIn wsX9_point_ (va_wsS RX9 60 yX9_in wsX9_in) := goodIn_app (goodIn_of _ (by decide +kernel)) ggX9_point__X9_in
set_option maxRecDepth 20000 in
theorem ggX9_point__X9_gone : GoodIn wsX9_point_ wsX9_gone := goodIn_r _ [18, 3, 4, 5, 19, 20, 21, 9, 22, 23, 24, 25, 26, 27, 28, 29, 30, 31, 32, 33, 34, 35, 36, 37, 38, 39, 40, 41, 42, 43, 44, 45, 46, 47, 48, 49, 50, 51, 52, 53, 54, 55, 56, 57, 58, 59, 60] (by decide +kernel) (by decide +kernel)
set_option maxRecDepth 20000 in
theorem gX9_point__X9_gone : GoodIn wsX9_point_ (wsV RX9 200 RX9 yX9_gone wsX9_gone) := goodIn_app (goodIn_of _ (by decide +kernel)) ggX9_point__X9_gone
theorem dX9_point__0 : decode cX9_point_ 0 = .ok (.aload_n 0, 1) := by decide +kernel
theorem dX9_point__1 : decode cX9_point_ 1 = .ok (.iload_n 1, 1) := by decide +kernel
theorem dX9_point__2 : decode cX9_point_ 2 = .ok (.invokevirtual 157, 3) := by decide +kernel
theorem dX9_point__5 : decode cX9_point_ 5 = .ok (.ifCond .eq 48, 3) := by decide +kernel
theorem dX9_point__8 : decode cX9_point_ 8 = .ok (.iload_n 2, 1) := by decide +kernel
theorem dX9_point__9 : decode cX9_point_ 9 = .ok (.i2l, 1) := by decide +kernel
theorem dX9_point__10 : decode cX9_point_ 10 = .ok (.lconst 1, 1) := by decide +kernel
theorem dX9_point__11 : decode cX9_point_ 11 = .ok (.ldc2_w 58, 3) := by decide +kernel
theorem dX9_point__14 : decode cX9_point_ 14 = .ok (.invokestatic 60, 3) := by decide +kernel
theorem dX9_point__17 : decode cX9_point_ 17 = .ok (.ifCond .eq 36, 3) := by decide +kernel
theorem dX9_point__20 : decode cX9_point_ 20 = .ok (.iload_n 3, 1) := by decide +kernel
theorem dX9_point__21 : decode cX9_point_ 21 = .ok (.ifCond .lt 32, 3) := by decide +kernel
theorem dX9_point__24 : decode cX9_point_ 24 = .ok (.iload 4, 2) := by decide +kernel
theorem dX9_point__26 : decode cX9_point_ 26 = .ok (.i2l, 1) := by decide +kernel
theorem dX9_point__27 : decode cX9_point_ 27 = .ok (.lconst 0, 1) := by decide +kernel
theorem dX9_point__28 : decode cX9_point_ 28 = .ok (.ldc2_w 166, 3) := by decide +kernel
theorem dX9_point__31 : decode cX9_point_ 31 = .ok (.invokestatic 60, 3) := by decide +kernel
theorem dX9_point__34 : decode cX9_point_ 34 = .ok (.ifCond .eq 19, 3) := by decide +kernel
theorem dX9_point__37 : decode cX9_point_ 37 = .ok (.aload_n 0, 1) := by decide +kernel
theorem dX9_point__38 : decode cX9_point_ 38 = .ok (.iload_n 1, 1) := by decide +kernel
theorem dX9_point__39 : decode cX9_point_ 39 = .ok (.iload_n 2, 1) := by decide +kernel
theorem dX9_point__40 : decode cX9_point_ 40 = .ok (.iload_n 3, 1) := by decide +kernel
theorem dX9_point__41 : decode cX9_point_ 41 = .ok (.iconst 0, 1) := by decide +kernel
theorem dX9_point__42 : decode cX9_point_ 42 = .ok (.iconst 0, 1) := by decide +kernel
theorem dX9_point__43 : decode cX9_point_ 43 = .ok (.iconst 0, 1) := by decide +kernel
theorem dX9_point__44 : decode cX9_point_ 44 = .ok (.iconst 0, 1) := by decide +kernel
theorem dX9_point__45 : decode cX9_point_ 45 = .ok (.invokevirtual 200, 3) := by decide +kernel
theorem dX9_point__48 : decode cX9_point_ 48 = .ok (.bipush (-4), 2) := by decide +kernel
theorem dX9_point__50 : decode cX9_point_ 50 = .ok (.if_icmp .ne 7, 3) := by decide +kernel
theorem dX9_point__53 : decode cX9_point_ 53 = .ok (.sipush 10000, 3) := by decide +kernel
theorem dX9_point__56 : decode cX9_point_ 56 = .ok (.ireturn, 1) := by decide +kernel
theorem dX9_point__57 : decode cX9_point_ 57 = .ok (.iload 4, 2) := by decide +kernel
theorem dX9_point__59 : decode cX9_point_ 59 = .ok (.ifCond .ne 10, 3) := by decide +kernel
theorem dX9_point__62 : decode cX9_point_ 62 = .ok (.aload_n 0, 1) := by decide +kernel
theorem dX9_point__63 : decode cX9_point_ 63 = .ok (.getfield 191, 3) := by decide +kernel
theorem dX9_point__66 : decode cX9_point_ 66 = .ok (.goto 20, 3) := by decide +kernel
theorem dX9_point__69 : decode cX9_point_ 69 = .ok (.iload 4, 2) := by decide +kernel
theorem dX9_point__71 : decode cX9_point_ 71 = .ok (.iconst 1, 1) := by decide +kernel
theorem dX9_point__72 : decode cX9_point_ 72 = .ok (.if_icmp .ne 10, 3) := by decide +kernel
theorem dX9_point__75 : decode cX9_point_ 75 = .ok (.aload_n 0, 1) := by decide +kernel
theorem dX9_point__76 : decode cX9_point_ 76 = .ok (.getfield 194, 3) := by decide +kernel
theorem dX9_point__79 : decode cX9_point_ 79 = .ok (.goto 7, 3) := by decide +kernel
theorem dX9_point__82 : decode cX9_point_ 82 = .ok (.aload_n 0, 1) := by decide +kernel
theorem dX9_point__83 : decode cX9_point_ 83 = .ok (.getfield 197, 3) := by decide +kernel
theorem dX9_point__86 : decode cX9_point_ 86 = .ok (.ireturn, 1) := by decide +kernel
set_option maxRecDepth 20000 in
theorem ggX9_rank_X9_is : GoodIn wsX9_rank wsX9_is := goodIn_r _ [6, 7, 8, 9, 5, 10, 36, 37, 38, 39, 40, 41, 42, 43, 44, 45, 46, 47, 48, 49, 50, 51, 52, 53, 54, 55, 56, 57, 58, 59] (by decide +kernel) (by decide +kernel)
set_option maxRecDepth 20000 in
theorem gX9_rank_X9_is : GoodIn wsX9_rank (wsV RX9 157 RX9 yX9_is wsX9_is) := goodIn_app (goodIn_of _ (by decide +kernel)) ggX9_rank_X9_is
set_option maxRecDepth 20000 in
theorem ggX9_rank_X9_in : GoodIn wsX9_rank wsX9_in := goodIn_r _ [10] (by decide +kernel) (by decide +kernel)
set_option maxRecDepth 20000 in
theorem gX9_rank_X9_in : GoodIn wsX9_rank (va_wsS RX9 60 yX9_in wsX9_in) := goodIn_app (goodIn_of _ (by decide +kernel)) ggX9_rank_X9_in
set_option maxRecDepth 20000 in
theorem ggX9_rank_X9_gone : GoodIn wsX9_rank wsX9_gone := goodIn_r _ [14, 15, 16, 17, 18, 19, 20, 5, 21, 22, 23, 24, 25, 26, 27, 28, 29, 30, 31, 32, 33, 34, 35, 36, 37, 38, 39, 40, 41, 42, 43, 44, 45, 46, 47, 48, 49, 50, 51, 52, 53, 54, 55, 56, 57, 58, 59] (by decide +kernel) (by decide +kernel)
set_option maxRecDepth 20000 in
theorem gX9_rank_X9_gone : GoodIn wsX9_rank (wsV RX9 200 RX9 yX9_gone wsX9_gone) := goodIn_app (goodIn_of _ (by decide +kernel)) ggX9_rank_X9_gone
theorem dX9_rank_0 : decode cX9_rank 0 = .ok (.aload_n 0, 1) := by decide +kernel
theorem dX9_rank_1 : decode cX9_rank 1 = .ok (.iload_n 1, 1) := by decide +kernel
theorem dX9_rank_2 : decode cX9_rank 2 = .ok (.invokevirtual 157, 3) := by decide +kernel
theorem dX9_rank_5 : decode cX9_rank 5 = .ok (.ifCond .eq 15, 3) := by decide +kernel
theorem dX9_rank_8 : decode cX9_rank 8 = .ok (.iload_n 2, 1) := by decide +kernel
theorem dX9_rank_9 : decode cX9_rank 9 = .ok (.i2l, 1) := by decide +kernel
theorem dX9_rank_10 : decode cX9_rank 10 = .ok (.lconst 1, 1) := by decide +kernel
theorem dX9_rank_11 : decode cX9_rank 11 = .ok (.ldc2_w 58, 3) := by decide +kernel
theorem dX9_rank_14 : decode cX9_rank 14 = .ok (.invokestatic 60, 3) := by decide +kernel
theorem dX9_rank_17 : decode cX9_rank 17 = .ok (.ifCond .ne 5, 3) := by decide +kernel
theorem dX9_rank_20 : decode cX9_rank 20 = .ok (.iconst (-1), 1) := by decide +kernel
theorem dX9_rank_21 : decode cX9_rank 21 = .ok (.ireturn, 1) := by decide +kernel
theorem dX9_rank_22 : decode cX9_rank 22 = .ok (.aload_n 0, 1) := by decide +kernel
theorem dX9_rank_23 : decode cX9_rank 23 = .ok (.iload_n 1, 1) := by decide +kernel
theorem dX9_rank_24 : decode cX9_rank 24 = .ok (.iload_n 2, 1) := by decide +kernel
theorem dX9_rank_25 : decode cX9_rank 25 = .ok (.iconst 0, 1) := by decide +kernel
theorem dX9_rank_26 : decode cX9_rank 26 = .ok (.iconst 1, 1) := by decide +kernel
theorem dX9_rank_27 : decode cX9_rank 27 = .ok (.iload_n 3, 1) := by decide +kernel
theorem dX9_rank_28 : decode cX9_rank 28 = .ok (.iload 4, 2) := by decide +kernel
theorem dX9_rank_30 : decode cX9_rank 30 = .ok (.iload 5, 2) := by decide +kernel
theorem dX9_rank_32 : decode cX9_rank 32 = .ok (.invokevirtual 200, 3) := by decide +kernel
theorem dX9_rank_35 : decode cX9_rank 35 = .ok (.ireturn, 1) := by decide +kernel
set_option maxRecDepth 20000 in
theorem ggX9_isSmall_X9_least : GoodIn wsX9_isSmall wsX9_least := goodIn_r _ [7, 8, 9, 17, 18, 19, 20, 21, 22, 23, 24, 25, 26, 27, 28, 29, 30, 31, 32, 33, 34, 35, 36, 37, 38, 39, 40] (by decide +kernel) (by decide +kernel)
set_option maxRecDepth 20000 in
theorem gX9_isSmall_X9_least : GoodIn wsX9_isSmall (wsV RX9 143 RX9 yX9_least wsX9_least) := goodIn_app (goodIn_of _ (by decide +kernel)) ggX9_isSmall_X9_least
set_option maxRecDepth 20000 in
theorem ggX9_isSmall_X9_in : GoodIn wsX9_isSmall wsX9_in := goodIn_r _ [12] (by decide +kernel) (by decide +kernel)
set_option maxRecDepth 20000 in
theorem gX9_isSmall_X9_in : GoodIn wsX9_isSmall (va_wsS RX9 60 yX9_in wsX9_in) := goodIn_app (goodIn_of _ (by decide +kernel)) ggX9_isSmall_X9_in
set_option maxRecDepth 20000 in
theorem ggX9_isSmall_X9_greatest : GoodIn wsX9_isSmall wsX9_greatest := goodIn_r _ [16, 8, 9, 17, 18, 19, 20, 21, 22, 23, 24, 25, 26, 27, 28, 29, 30, 31, 32, 33, 34, 35, 36, 37, 38, 39, 40] (by decide +kernel) (by decide +kernel)
set_option maxRecDepth 20000 in
theorem gX9_isSmall_X9_greatest : GoodIn wsX9_isSmall (wsV RX9 146 RX9 yX9_greatest wsX9_greatest) := goodIn_app (goodIn_of _ (by decide +kernel)) ggX9_isSmall_X9_greatest
theorem dX9_isSmall_0 : decode cX9_isSmall 0 = .ok (.aload_n 0, 1) := by decide +kernel
theorem dX9_isSmall_1 : decode cX9_isSmall 1 = .ok (.iload_n 1, 1) := by decide +kernel
theorem dX9_isSmall_2 : decode cX9_isSmall 2 = .ok (.iconst 0, 1) := by decide +kernel
theorem dX9_isSmall_3 : decode cX9_isSmall 3 = .ok (.invokevirtual 143, 3) := by decide +kernel
theorem dX9_isSmall_6 : decode cX9_isSmall 6 = .ok (.i2l, 1) := by decide +kernel
theorem dX9_isSmall_7 : decode cX9_isSmall 7 = .ok (.iload_n 2, 1) := by decide +kernel
theorem dX9_isSmall_8 : decode cX9_isSmall 8 = .ok (.i2l, 1) := by decide +kernel
theorem dX9_isSmall_9 : decode cX9_isSmall 9 = .ok (.ladd, 1) := by decide +kernel
theorem dX9_isSmall_10 : decode cX9_isSmall 10 = .ok (.ldc2_w 56, 3) := by decide +kernel
theorem dX9_isSmall_13 : decode cX9_isSmall 13 = .ok (.ldc2_w 58, 3) := by decide +kernel
theorem dX9_isSmall_16 : decode cX9_isSmall 16 = .ok (.invokestatic 60, 3) := by decide +kernel
theorem dX9_isSmall_19 : decode cX9_isSmall 19 = .ok (.ifCond .eq 119, 3) := by decide +kernel
theorem dX9_isSmall_22 : decode cX9_isSmall 22 = .ok (.aload_n 0, 1) := by decide +kernel
theorem dX9_isSmall_23 : decode cX9_isSmall 23 = .ok (.iload_n 1, 1) := by decide +kernel
theorem dX9_isSmall_24 : decode cX9_isSmall 24 = .ok (.iconst 0, 1) := by decide +kernel
theorem dX9_isSmall_25 : decode cX9_isSmall 25 = .ok (.invokevirtual 146, 3) := by decide +kernel
theorem dX9_isSmall_28 : decode cX9_isSmall 28 = .ok (.i2l, 1) := by decide +kernel
theorem dX9_isSmall_29 : decode cX9_isSmall 29 = .ok (.iload_n 2, 1) := by decide +kernel
theorem dX9_isSmall_30 : decode cX9_isSmall 30 = .ok (.i2l, 1) := by decide +kernel
theorem dX9_isSmall_31 : decode cX9_isSmall 31 = .ok (.ladd, 1) := by decide +kernel
theorem dX9_isSmall_32 : decode cX9_isSmall 32 = .ok (.ldc2_w 56, 3) := by decide +kernel
theorem dX9_isSmall_35 : decode cX9_isSmall 35 = .ok (.ldc2_w 58, 3) := by decide +kernel
theorem dX9_isSmall_38 : decode cX9_isSmall 38 = .ok (.invokestatic 60, 3) := by decide +kernel
theorem dX9_isSmall_41 : decode cX9_isSmall 41 = .ok (.ifCond .eq 97, 3) := by decide +kernel
theorem dX9_isSmall_44 : decode cX9_isSmall 44 = .ok (.aload_n 0, 1) := by decide +kernel
theorem dX9_isSmall_45 : decode cX9_isSmall 45 = .ok (.iload_n 1, 1) := by decide +kernel
theorem dX9_isSmall_46 : decode cX9_isSmall 46 = .ok (.iconst 1, 1) := by decide +kernel
theorem dX9_isSmall_47 : decode cX9_isSmall 47 = .ok (.invokevirtual 143, 3) := by decide +kernel
theorem dX9_isSmall_50 : decode cX9_isSmall 50 = .ok (.i2l, 1) := by decide +kernel
theorem dX9_isSmall_51 : decode cX9_isSmall 51 = .ok (.iload_n 3, 1) := by decide +kernel
theorem dX9_isSmall_52 : decode cX9_isSmall 52 = .ok (.i2l, 1) := by decide +kernel
theorem dX9_isSmall_53 : decode cX9_isSmall 53 = .ok (.ladd, 1) := by decide +kernel
theorem dX9_isSmall_54 : decode cX9_isSmall 54 = .ok (.ldc2_w 56, 3) := by decide +kernel
theorem dX9_isSmall_57 : decode cX9_isSmall 57 = .ok (.ldc2_w 58, 3) := by decide +kernel
theorem dX9_isSmall_60 : decode cX9_isSmall 60 = .ok (.invokestatic 60, 3) := by decide +kernel
theorem dX9_isSmall_63 : decode cX9_isSmall 63 = .ok (.ifCond .eq 75, 3) := by decide +kernel
theorem dX9_isSmall_66 : decode cX9_isSmall 66 = .ok (.aload_n 0, 1) := by decide +kernel
theorem dX9_isSmall_67 : decode cX9_isSmall 67 = .ok (.iload_n 1, 1) := by decide +kernel
theorem dX9_isSmall_68 : decode cX9_isSmall 68 = .ok (.iconst 1, 1) := by decide +kernel
theorem dX9_isSmall_69 : decode cX9_isSmall 69 = .ok (.invokevirtual 146, 3) := by decide +kernel
theorem dX9_isSmall_72 : decode cX9_isSmall 72 = .ok (.i2l, 1) := by decide +kernel
theorem dX9_isSmall_73 : decode cX9_isSmall 73 = .ok (.iload_n 3, 1) := by decide +kernel
theorem dX9_isSmall_74 : decode cX9_isSmall 74 = .ok (.i2l, 1) := by decide +kernel
theorem dX9_isSmall_75 : decode cX9_isSmall 75 = .ok (.ladd, 1) := by decide +kernel
theorem dX9_isSmall_76 : decode cX9_isSmall 76 = .ok (.ldc2_w 56, 3) := by decide +kernel
theorem dX9_isSmall_79 : decode cX9_isSmall 79 = .ok (.ldc2_w 58, 3) := by decide +kernel
theorem dX9_isSmall_82 : decode cX9_isSmall 82 = .ok (.invokestatic 60, 3) := by decide +kernel
theorem dX9_isSmall_85 : decode cX9_isSmall 85 = .ok (.ifCond .eq 53, 3) := by decide +kernel
theorem dX9_isSmall_88 : decode cX9_isSmall 88 = .ok (.aload_n 0, 1) := by decide +kernel
theorem dX9_isSmall_89 : decode cX9_isSmall 89 = .ok (.iload_n 1, 1) := by decide +kernel
theorem dX9_isSmall_90 : decode cX9_isSmall 90 = .ok (.iconst 2, 1) := by decide +kernel
theorem dX9_isSmall_91 : decode cX9_isSmall 91 = .ok (.invokevirtual 143, 3) := by decide +kernel
theorem dX9_isSmall_94 : decode cX9_isSmall 94 = .ok (.i2l, 1) := by decide +kernel
theorem dX9_isSmall_95 : decode cX9_isSmall 95 = .ok (.iload 4, 2) := by decide +kernel
theorem dX9_isSmall_97 : decode cX9_isSmall 97 = .ok (.i2l, 1) := by decide +kernel
theorem dX9_isSmall_98 : decode cX9_isSmall 98 = .ok (.ladd, 1) := by decide +kernel
theorem dX9_isSmall_99 : decode cX9_isSmall 99 = .ok (.ldc2_w 56, 3) := by decide +kernel
theorem dX9_isSmall_102 : decode cX9_isSmall 102 = .ok (.ldc2_w 58, 3) := by decide +kernel
theorem dX9_isSmall_105 : decode cX9_isSmall 105 = .ok (.invokestatic 60, 3) := by decide +kernel
theorem dX9_isSmall_108 : decode cX9_isSmall 108 = .ok (.ifCond .eq 30, 3) := by decide +kernel
theorem dX9_isSmall_111 : decode cX9_isSmall 111 = .ok (.aload_n 0, 1) := by decide +kernel
theorem dX9_isSmall_112 : decode cX9_isSmall 112 = .ok (.iload_n 1, 1) := by decide +kernel
theorem dX9_isSmall_113 : decode cX9_isSmall 113 = .ok (.iconst 2, 1) := by decide +kernel
theorem dX9_isSmall_114 : decode cX9_isSmall 114 = .ok (.invokevirtual 146, 3) := by decide +kernel
theorem dX9_isSmall_117 : decode cX9_isSmall 117 = .ok (.i2l, 1) := by decide +kernel
theorem dX9_isSmall_118 : decode cX9_isSmall 118 = .ok (.iload 4, 2) := by decide +kernel
theorem dX9_isSmall_120 : decode cX9_isSmall 120 = .ok (.i2l, 1) := by decide +kernel
theorem dX9_isSmall_121 : decode cX9_isSmall 121 = .ok (.ladd, 1) := by decide +kernel
theorem dX9_isSmall_122 : decode cX9_isSmall 122 = .ok (.ldc2_w 56, 3) := by decide +kernel
theorem dX9_isSmall_125 : decode cX9_isSmall 125 = .ok (.ldc2_w 58, 3) := by decide +kernel
theorem dX9_isSmall_128 : decode cX9_isSmall 128 = .ok (.invokestatic 60, 3) := by decide +kernel
theorem dX9_isSmall_131 : decode cX9_isSmall 131 = .ok (.ifCond .eq 7, 3) := by decide +kernel
theorem dX9_isSmall_134 : decode cX9_isSmall 134 = .ok (.iconst 1, 1) := by decide +kernel
theorem dX9_isSmall_135 : decode cX9_isSmall 135 = .ok (.goto 4, 3) := by decide +kernel
theorem dX9_isSmall_138 : decode cX9_isSmall 138 = .ok (.iconst 0, 1) := by decide +kernel
theorem dX9_isSmall_139 : decode cX9_isSmall 139 = .ok (.ireturn, 1) := by decide +kernel
set_option maxRecDepth 20000 in
theorem ggX9_move_X9_is : GoodIn wsX9_move wsX9_is := goodIn_r _ [9, 1, 10, 11, 8, 12, 97, 98, 99, 100, 101, 102, 103, 104, 105, 106, 107, 108, 109, 110, 111, 112, 113, 114, 115, 116, 117, 118, 119, 120] (by decide +kernel) (by decide +kernel)
set_option maxRecDepth 20000 in
theorem gX9_move_X9_is : GoodIn wsX9_move (wsV RX9 157 RX9 yX9_is wsX9_is) := goodIn_app (goodIn_of _ (by decide +kernel)) ggX9_move_X9_is
set_option maxRecDepth 20000 in
theorem ggX9_move_X9_isSmall : GoodIn wsX9_move wsX9_isSmall := goodIn_r _ [16, 17, 18, 19, 20, 21, 8, 22, 3, 4, 10, 11, 12, 23, 24, 25, 26, 97, 98, 99, 100, 101, 102, 103, 104, 105, 106, 107, 108, 109, 110, 111, 112, 113, 114, 115, 116, 117, 118, 119, 120] (by decide +kernel) (by decide +kernel)
set_option maxRecDepth 20000 in
theorem gX9_move_X9_isSmall : GoodIn wsX9_move (wsV RX9 204 RX9 yX9_isSmall wsX9_isSmall) := goodIn_app (goodIn_of _ (by decide +kernel)) ggX9_move_X9_isSmall
set_option maxRecDepth 20000 in
theorem ggX9_move_X9_point : GoodIn wsX9_move wsX9_point := goodIn_r _ [30, 2, 31, 32, 33, 34, 35, 36, 8, 37, 97, 98, 99, 100, 101, 102, 103, 104, 105, 106, 107, 108, 109, 110, 111, 112, 113, 114, 115, 116, 117, 118, 119, 120] (by decide +kernel) (by decide +kernel)
set_option maxRecDepth 20000 in
theorem gX9_move_X9_point : GoodIn wsX9_move (wsV RX9 137 RX9 yX9_point wsX9_point) := goodIn_app (goodIn_of _ (by decide +kernel)) ggX9_move_X9_point
set_option maxRecDepth 20000 in
theorem ggX9_move_X9_made : GoodIn wsX9_move wsX9_made := goodIn_p _ [41, 52, 56, 59, 63, 67, 71, 75, 79, 83, 88, 92, 96] rfl (by decide +kernel)
set_option maxRecDepth 20000 in
theorem gX9_move_X9_made : GoodIn wsX9_move (wsV RX9 140 RX9 yX9_made wsX9_made) := goodIn_app (goodIn_of _ (by decide +kernel)) ggX9_move_X9_made
theorem dX9_move_0 : decode cX9_move 0 = .ok (.aload_n 0, 1) := by decide +kernel
theorem dX9_move_1 : decode cX9_move 1 = .ok (.iload_n 1, 1) := by decide +kernel
theorem dX9_move_2 : decode cX9_move 2 = .ok (.invokevirtual 157, 3) := by decide +kernel
theorem dX9_move_5 : decode cX9_move 5 = .ok (.ifCond .eq 15, 3) := by decide +kernel
theorem dX9_move_8 : decode cX9_move 8 = .ok (.aload_n 0, 1) := by decide +kernel
theorem dX9_move_9 : decode cX9_move 9 = .ok (.iload_n 1, 1) := by decide +kernel
theorem dX9_move_10 : decode cX9_move 10 = .ok (.iload_n 2, 1) := by decide +kernel
theorem dX9_move_11 : decode cX9_move 11 = .ok (.iload_n 3, 1) := by decide +kernel
theorem dX9_move_12 : decode cX9_move 12 = .ok (.iload 4, 2) := by decide +kernel
theorem dX9_move_14 : decode cX9_move 14 = .ok (.invokevirtual 204, 3) := by decide +kernel
theorem dX9_move_17 : decode cX9_move 17 = .ok (.ifCond .ne 5, 3) := by decide +kernel
theorem dX9_move_20 : decode cX9_move 20 = .ok (.iconst (-1), 1) := by decide +kernel
theorem dX9_move_21 : decode cX9_move 21 = .ok (.ireturn, 1) := by decide +kernel
theorem dX9_move_22 : decode cX9_move 22 = .ok (.aload_n 0, 1) := by decide +kernel
theorem dX9_move_23 : decode cX9_move 23 = .ok (.getfield 124, 3) := by decide +kernel
theorem dX9_move_26 : decode cX9_move 26 = .ok (.bipush 8, 2) := by decide +kernel
theorem dX9_move_28 : decode cX9_move 28 = .ok (.if_icmp .ne 6, 3) := by decide +kernel
theorem dX9_move_31 : decode cX9_move 31 = .ok (.bipush (-3), 2) := by decide +kernel
theorem dX9_move_33 : decode cX9_move 33 = .ok (.ireturn, 1) := by decide +kernel
theorem dX9_move_34 : decode cX9_move 34 = .ok (.aload_n 0, 1) := by decide +kernel
theorem dX9_move_35 : decode cX9_move 35 = .ok (.iconst 0, 1) := by decide +kernel
theorem dX9_move_36 : decode cX9_move 36 = .ok (.putfield 74, 3) := by decide +kernel
theorem dX9_move_39 : decode cX9_move 39 = .ok (.iconst 0, 1) := by decide +kernel
theorem dX9_move_40 : decode cX9_move 40 = .ok (.istore 5, 2) := by decide +kernel
theorem dX9_move_42 : decode cX9_move 42 = .ok (.iload 5, 2) := by decide +kernel
theorem dX9_move_44 : decode cX9_move 44 = .ok (.aload_n 0, 1) := by decide +kernel
theorem dX9_move_45 : decode cX9_move 45 = .ok (.getfield 26, 3) := by decide +kernel
theorem dX9_move_48 : decode cX9_move 48 = .ok (.iload_n 1, 1) := by decide +kernel
theorem dX9_move_49 : decode cX9_move 49 = .ok (.iaload, 1) := by decide +kernel
theorem dX9_move_50 : decode cX9_move 50 = .ok (.if_icmp .ge 56, 3) := by decide +kernel
theorem dX9_move_53 : decode cX9_move 53 = .ok (.bipush 120, 2) := by decide +kernel
theorem dX9_move_55 : decode cX9_move 55 = .ok (.iload_n 1, 1) := by decide +kernel
theorem dX9_move_56 : decode cX9_move 56 = .ok (.imul, 1) := by decide +kernel
theorem dX9_move_57 : decode cX9_move 57 = .ok (.iconst 3, 1) := by decide +kernel
theorem dX9_move_58 : decode cX9_move 58 = .ok (.iload 5, 2) := by decide +kernel
theorem dX9_move_60 : decode cX9_move 60 = .ok (.imul, 1) := by decide +kernel
theorem dX9_move_61 : decode cX9_move 61 = .ok (.iadd, 1) := by decide +kernel
theorem dX9_move_62 : decode cX9_move 62 = .ok (.istore 6, 2) := by decide +kernel
theorem dX9_move_64 : decode cX9_move 64 = .ok (.aload_n 0, 1) := by decide +kernel
theorem dX9_move_65 : decode cX9_move 65 = .ok (.aload_n 0, 1) := by decide +kernel
theorem dX9_move_66 : decode cX9_move 66 = .ok (.getfield 29, 3) := by decide +kernel
theorem dX9_move_69 : decode cX9_move 69 = .ok (.iload 6, 2) := by decide +kernel
theorem dX9_move_71 : decode cX9_move 71 = .ok (.iaload, 1) := by decide +kernel
theorem dX9_move_72 : decode cX9_move 72 = .ok (.iload_n 2, 1) := by decide +kernel
theorem dX9_move_73 : decode cX9_move 73 = .ok (.iadd, 1) := by decide +kernel
theorem dX9_move_74 : decode cX9_move 74 = .ok (.aload_n 0, 1) := by decide +kernel
theorem dX9_move_75 : decode cX9_move 75 = .ok (.getfield 29, 3) := by decide +kernel
theorem dX9_move_78 : decode cX9_move 78 = .ok (.iload 6, 2) := by decide +kernel
theorem dX9_move_80 : decode cX9_move 80 = .ok (.iconst 1, 1) := by decide +kernel
theorem dX9_move_81 : decode cX9_move 81 = .ok (.iadd, 1) := by decide +kernel
theorem dX9_move_82 : decode cX9_move 82 = .ok (.iaload, 1) := by decide +kernel
theorem dX9_move_83 : decode cX9_move 83 = .ok (.iload_n 3, 1) := by decide +kernel
theorem dX9_move_84 : decode cX9_move 84 = .ok (.iadd, 1) := by decide +kernel
theorem dX9_move_85 : decode cX9_move 85 = .ok (.aload_n 0, 1) := by decide +kernel
theorem dX9_move_86 : decode cX9_move 86 = .ok (.getfield 29, 3) := by decide +kernel
theorem dX9_move_89 : decode cX9_move 89 = .ok (.iload 6, 2) := by decide +kernel
theorem dX9_move_91 : decode cX9_move 91 = .ok (.iconst 2, 1) := by decide +kernel
theorem dX9_move_92 : decode cX9_move 92 = .ok (.iadd, 1) := by decide +kernel
theorem dX9_move_93 : decode cX9_move 93 = .ok (.iaload, 1) := by decide +kernel
theorem dX9_move_94 : decode cX9_move 94 = .ok (.iload 4, 2) := by decide +kernel
theorem dX9_move_96 : decode cX9_move 96 = .ok (.iadd, 1) := by decide +kernel
theorem dX9_move_97 : decode cX9_move 97 = .ok (.invokevirtual 137, 3) := by decide +kernel
theorem dX9_move_100 : decode cX9_move 100 = .ok (.iinc 5 1, 3) := by decide +kernel
theorem dX9_move_103 : decode cX9_move 103 = .ok (.goto (-61), 3) := by decide +kernel
theorem dX9_move_106 : decode cX9_move 106 = .ok (.aload_n 0, 1) := by decide +kernel
theorem dX9_move_107 : decode cX9_move 107 = .ok (.aload_n 0, 1) := by decide +kernel
theorem dX9_move_108 : decode cX9_move 108 = .ok (.getfield 26, 3) := by decide +kernel
theorem dX9_move_111 : decode cX9_move 111 = .ok (.iload_n 1, 1) := by decide +kernel
theorem dX9_move_112 : decode cX9_move 112 = .ok (.iaload, 1) := by decide +kernel
theorem dX9_move_113 : decode cX9_move 113 = .ok (.invokevirtual 140, 3) := by decide +kernel
theorem dX9_move_116 : decode cX9_move 116 = .ok (.ireturn, 1) := by decide +kernel
set_option maxRecDepth 20000 in
theorem ggX9_turn_X9_is : GoodIn wsX9_turn wsX9_is := goodIn_r _ [12, 7, 13, 14, 11, 15, 86, 87, 88, 89, 90, 91, 92, 93, 94, 95, 96, 97, 98, 99, 100, 101, 102, 103, 104, 105, 106, 107, 108, 109] (by decide +kernel) (by decide +kernel)
set_option maxRecDepth 20000 in
theorem gX9_turn_X9_is : GoodIn wsX9_turn (wsV RX9 157 RX9 yX9_is wsX9_is) := goodIn_app (goodIn_of _ (by decide +kernel)) ggX9_turn_X9_is
set_option maxRecDepth 20000 in
theorem ggX9_turn_X9_in : GoodIn wsX9_turn wsX9_in := goodIn_r _ [15] (by decide +kernel) (by decide +kernel)
set_option maxRecDepth 20000 in
theorem gX9_turn_X9_in : GoodIn wsX9_turn (va_wsS RX9 60 yX9_in wsX9_in) := goodIn_app (goodIn_of _ (by decide +kernel)) ggX9_turn_X9_in
set_option maxRecDepth 20000 in
theorem ggX9_turn_X9_point : GoodIn wsX9_turn wsX9_point := goodIn_r _ [19, 2, 20, 21, 22, 23, 24, 25, 11, 26, 86, 87, 88, 89, 90, 91, 92, 93, 94, 95, 96, 97, 98, 99, 100, 101, 102, 103, 104, 105, 106, 107, 108, 109] (by decide +kernel) (by decide +kernel)
set_option maxRecDepth 20000 in
theorem gX9_turn_X9_point : GoodIn wsX9_turn (wsV RX9 137 RX9 yX9_point wsX9_point) := goodIn_app (goodIn_of _ (by decide +kernel)) ggX9_turn_X9_point
set_option maxRecDepth 20000 in
theorem ggX9_turn_X9_made : GoodIn wsX9_turn wsX9_made := goodIn_p _ [30, 41, 45, 48, 52, 56, 60, 64, 68, 72, 77, 81, 85] rfl (by decide +kernel)
set_option maxRecDepth 20000 in
theorem gX9_turn_X9_made : GoodIn wsX9_turn (wsV RX9 140 RX9 yX9_made wsX9_made) := goodIn_app (goodIn_of _ (by decide +kernel)) ggX9_turn_X9_made
theorem dX9_turn_0 : decode cX9_turn 0 = .ok (.aload_n 0, 1) := by decide +kernel
theorem dX9_turn_1 : decode cX9_turn 1 = .ok (.iload_n 1, 1) := by decide +kernel
theorem dX9_turn_2 : decode cX9_turn 2 = .ok (.invokevirtual 157, 3) := by decide +kernel
theorem dX9_turn_5 : decode cX9_turn 5 = .ok (.ifCond .eq 15, 3) := by decide +kernel
theorem dX9_turn_8 : decode cX9_turn 8 = .ok (.iload_n 2, 1) := by decide +kernel
theorem dX9_turn_9 : decode cX9_turn 9 = .ok (.i2l, 1) := by decide +kernel
theorem dX9_turn_10 : decode cX9_turn 10 = .ok (.lconst 0, 1) := by decide +kernel
theorem dX9_turn_11 : decode cX9_turn 11 = .ok (.ldc2_w 207, 3) := by decide +kernel
theorem dX9_turn_14 : decode cX9_turn 14 = .ok (.invokestatic 60, 3) := by decide +kernel
theorem dX9_turn_17 : decode cX9_turn 17 = .ok (.ifCond .ne 5, 3) := by decide +kernel
theorem dX9_turn_20 : decode cX9_turn 20 = .ok (.iconst (-1), 1) := by decide +kernel
theorem dX9_turn_21 : decode cX9_turn 21 = .ok (.ireturn, 1) := by decide +kernel
theorem dX9_turn_22 : decode cX9_turn 22 = .ok (.aload_n 0, 1) := by decide +kernel
theorem dX9_turn_23 : decode cX9_turn 23 = .ok (.iconst 0, 1) := by decide +kernel
theorem dX9_turn_24 : decode cX9_turn 24 = .ok (.putfield 74, 3) := by decide +kernel
theorem dX9_turn_27 : decode cX9_turn 27 = .ok (.iconst 1, 1) := by decide +kernel
theorem dX9_turn_28 : decode cX9_turn 28 = .ok (.istore_n 3, 1) := by decide +kernel
theorem dX9_turn_29 : decode cX9_turn 29 = .ok (.iconst 0, 1) := by decide +kernel
theorem dX9_turn_30 : decode cX9_turn 30 = .ok (.istore 4, 2) := by decide +kernel
theorem dX9_turn_32 : decode cX9_turn 32 = .ok (.iload 4, 2) := by decide +kernel
theorem dX9_turn_34 : decode cX9_turn 34 = .ok (.aload_n 0, 1) := by decide +kernel
theorem dX9_turn_35 : decode cX9_turn 35 = .ok (.getfield 26, 3) := by decide +kernel
theorem dX9_turn_38 : decode cX9_turn 38 = .ok (.iload_n 1, 1) := by decide +kernel
theorem dX9_turn_39 : decode cX9_turn 39 = .ok (.iaload, 1) := by decide +kernel
theorem dX9_turn_40 : decode cX9_turn 40 = .ok (.if_icmp .ge 188, 3) := by decide +kernel
theorem dX9_turn_43 : decode cX9_turn 43 = .ok (.bipush 120, 2) := by decide +kernel
theorem dX9_turn_45 : decode cX9_turn 45 = .ok (.iload_n 1, 1) := by decide +kernel
theorem dX9_turn_46 : decode cX9_turn 46 = .ok (.imul, 1) := by decide +kernel
theorem dX9_turn_47 : decode cX9_turn 47 = .ok (.iconst 3, 1) := by decide +kernel
theorem dX9_turn_48 : decode cX9_turn 48 = .ok (.iload 4, 2) := by decide +kernel
theorem dX9_turn_50 : decode cX9_turn 50 = .ok (.imul, 1) := by decide +kernel
theorem dX9_turn_51 : decode cX9_turn 51 = .ok (.iadd, 1) := by decide +kernel
theorem dX9_turn_52 : decode cX9_turn 52 = .ok (.istore 5, 2) := by decide +kernel
theorem dX9_turn_54 : decode cX9_turn 54 = .ok (.aload_n 0, 1) := by decide +kernel
theorem dX9_turn_55 : decode cX9_turn 55 = .ok (.getfield 29, 3) := by decide +kernel
theorem dX9_turn_58 : decode cX9_turn 58 = .ok (.iload 5, 2) := by decide +kernel
theorem dX9_turn_60 : decode cX9_turn 60 = .ok (.iaload, 1) := by decide +kernel
theorem dX9_turn_61 : decode cX9_turn 61 = .ok (.istore 6, 2) := by decide +kernel
theorem dX9_turn_63 : decode cX9_turn 63 = .ok (.aload_n 0, 1) := by decide +kernel
theorem dX9_turn_64 : decode cX9_turn 64 = .ok (.getfield 29, 3) := by decide +kernel
theorem dX9_turn_67 : decode cX9_turn 67 = .ok (.iload 5, 2) := by decide +kernel
theorem dX9_turn_69 : decode cX9_turn 69 = .ok (.iconst 1, 1) := by decide +kernel
theorem dX9_turn_70 : decode cX9_turn 70 = .ok (.iadd, 1) := by decide +kernel
theorem dX9_turn_71 : decode cX9_turn 71 = .ok (.iaload, 1) := by decide +kernel
theorem dX9_turn_72 : decode cX9_turn 72 = .ok (.istore 7, 2) := by decide +kernel
theorem dX9_turn_74 : decode cX9_turn 74 = .ok (.aload_n 0, 1) := by decide +kernel
theorem dX9_turn_75 : decode cX9_turn 75 = .ok (.getfield 29, 3) := by decide +kernel
theorem dX9_turn_78 : decode cX9_turn 78 = .ok (.iload 5, 2) := by decide +kernel
theorem dX9_turn_80 : decode cX9_turn 80 = .ok (.iconst 2, 1) := by decide +kernel
theorem dX9_turn_81 : decode cX9_turn 81 = .ok (.iadd, 1) := by decide +kernel
theorem dX9_turn_82 : decode cX9_turn 82 = .ok (.iaload, 1) := by decide +kernel
theorem dX9_turn_83 : decode cX9_turn 83 = .ok (.istore 8, 2) := by decide +kernel
theorem dX9_turn_85 : decode cX9_turn 85 = .ok (.iload_n 2, 1) := by decide +kernel
theorem dX9_turn_86 : decode cX9_turn 86 = .ok (.ifCond .ne 8, 3) := by decide +kernel
theorem dX9_turn_89 : decode cX9_turn 89 = .ok (.iload 7, 2) := by decide +kernel
theorem dX9_turn_91 : decode cX9_turn 91 = .ok (.goto 29, 3) := by decide +kernel
theorem dX9_turn_94 : decode cX9_turn 94 = .ok (.iload_n 2, 1) := by decide +kernel
theorem dX9_turn_95 : decode cX9_turn 95 = .ok (.iconst 2, 1) := by decide +kernel
theorem dX9_turn_96 : decode cX9_turn 96 = .ok (.if_icmp .ne 9, 3) := by decide +kernel
theorem dX9_turn_99 : decode cX9_turn 99 = .ok (.iload 6, 2) := by decide +kernel
theorem dX9_turn_101 : decode cX9_turn 101 = .ok (.ineg, 1) := by decide +kernel
theorem dX9_turn_102 : decode cX9_turn 102 = .ok (.goto 18, 3) := by decide +kernel
theorem dX9_turn_105 : decode cX9_turn 105 = .ok (.iload_n 2, 1) := by decide +kernel
theorem dX9_turn_106 : decode cX9_turn 106 = .ok (.iconst 3, 1) := by decide +kernel
theorem dX9_turn_107 : decode cX9_turn 107 = .ok (.if_icmp .ne 11, 3) := by decide +kernel
theorem dX9_turn_110 : decode cX9_turn 110 = .ok (.iload 6, 2) := by decide +kernel
theorem dX9_turn_112 : decode cX9_turn 112 = .ok (.iload 7, 2) := by decide +kernel
theorem dX9_turn_114 : decode cX9_turn 114 = .ok (.iadd, 1) := by decide +kernel
theorem dX9_turn_115 : decode cX9_turn 115 = .ok (.goto 5, 3) := by decide +kernel
theorem dX9_turn_118 : decode cX9_turn 118 = .ok (.iload 6, 2) := by decide +kernel
theorem dX9_turn_120 : decode cX9_turn 120 = .ok (.istore 9, 2) := by decide +kernel
theorem dX9_turn_122 : decode cX9_turn 122 = .ok (.iload_n 2, 1) := by decide +kernel
theorem dX9_turn_123 : decode cX9_turn 123 = .ok (.ifCond .ne 8, 3) := by decide +kernel
theorem dX9_turn_126 : decode cX9_turn 126 = .ok (.iload 6, 2) := by decide +kernel
theorem dX9_turn_128 : decode cX9_turn 128 = .ok (.goto 15, 3) := by decide +kernel
theorem dX9_turn_131 : decode cX9_turn 131 = .ok (.iload_n 2, 1) := by decide +kernel
theorem dX9_turn_132 : decode cX9_turn 132 = .ok (.iconst 1, 1) := by decide +kernel
theorem dX9_turn_133 : decode cX9_turn 133 = .ok (.if_icmp .ne 8, 3) := by decide +kernel
theorem dX9_turn_136 : decode cX9_turn 136 = .ok (.iload 8, 2) := by decide +kernel
theorem dX9_turn_138 : decode cX9_turn 138 = .ok (.goto 5, 3) := by decide +kernel
theorem dX9_turn_141 : decode cX9_turn 141 = .ok (.iload 7, 2) := by decide +kernel
theorem dX9_turn_143 : decode cX9_turn 143 = .ok (.istore 10, 2) := by decide +kernel
theorem dX9_turn_145 : decode cX9_turn 145 = .ok (.iload_n 2, 1) := by decide +kernel
theorem dX9_turn_146 : decode cX9_turn 146 = .ok (.iconst 1, 1) := by decide +kernel
theorem dX9_turn_147 : decode cX9_turn 147 = .ok (.if_icmp .ne 8, 3) := by decide +kernel
theorem dX9_turn_150 : decode cX9_turn 150 = .ok (.iload 7, 2) := by decide +kernel
theorem dX9_turn_152 : decode cX9_turn 152 = .ok (.goto 18, 3) := by decide +kernel
theorem dX9_turn_155 : decode cX9_turn 155 = .ok (.iload_n 2, 1) := by decide +kernel
theorem dX9_turn_156 : decode cX9_turn 156 = .ok (.iconst 4, 1) := by decide +kernel
theorem dX9_turn_157 : decode cX9_turn 157 = .ok (.if_icmp .ne 11, 3) := by decide +kernel
theorem dX9_turn_160 : decode cX9_turn 160 = .ok (.iload 8, 2) := by decide +kernel
theorem dX9_turn_162 : decode cX9_turn 162 = .ok (.iload 6, 2) := by decide +kernel
theorem dX9_turn_164 : decode cX9_turn 164 = .ok (.isub, 1) := by decide +kernel
theorem dX9_turn_165 : decode cX9_turn 165 = .ok (.goto 5, 3) := by decide +kernel
theorem dX9_turn_168 : decode cX9_turn 168 = .ok (.iload 8, 2) := by decide +kernel
theorem dX9_turn_170 : decode cX9_turn 170 = .ok (.istore 11, 2) := by decide +kernel
theorem dX9_turn_172 : decode cX9_turn 172 = .ok (.iload_n 3, 1) := by decide +kernel
theorem dX9_turn_173 : decode cX9_turn 173 = .ok (.ifCond .eq 37, 3) := by decide +kernel
theorem dX9_turn_176 : decode cX9_turn 176 = .ok (.iload 9, 2) := by decide +kernel
theorem dX9_turn_178 : decode cX9_turn 178 = .ok (.i2l, 1) := by decide +kernel
theorem dX9_turn_179 : decode cX9_turn 179 = .ok (.ldc2_w 56, 3) := by decide +kernel
theorem dX9_turn_182 : decode cX9_turn 182 = .ok (.ldc2_w 58, 3) := by decide +kernel
theorem dX9_turn_185 : decode cX9_turn 185 = .ok (.invokestatic 60, 3) := by decide +kernel
theorem dX9_turn_188 : decode cX9_turn 188 = .ok (.ifCond .eq 22, 3) := by decide +kernel
theorem dX9_turn_191 : decode cX9_turn 191 = .ok (.iload 11, 2) := by decide +kernel
theorem dX9_turn_193 : decode cX9_turn 193 = .ok (.i2l, 1) := by decide +kernel
theorem dX9_turn_194 : decode cX9_turn 194 = .ok (.ldc2_w 56, 3) := by decide +kernel
theorem dX9_turn_197 : decode cX9_turn 197 = .ok (.ldc2_w 58, 3) := by decide +kernel
theorem dX9_turn_200 : decode cX9_turn 200 = .ok (.invokestatic 60, 3) := by decide +kernel
theorem dX9_turn_203 : decode cX9_turn 203 = .ok (.ifCond .eq 7, 3) := by decide +kernel
theorem dX9_turn_206 : decode cX9_turn 206 = .ok (.iconst 1, 1) := by decide +kernel
theorem dX9_turn_207 : decode cX9_turn 207 = .ok (.goto 4, 3) := by decide +kernel
theorem dX9_turn_210 : decode cX9_turn 210 = .ok (.iconst 0, 1) := by decide +kernel
theorem dX9_turn_211 : decode cX9_turn 211 = .ok (.istore_n 3, 1) := by decide +kernel
theorem dX9_turn_212 : decode cX9_turn 212 = .ok (.aload_n 0, 1) := by decide +kernel
theorem dX9_turn_213 : decode cX9_turn 213 = .ok (.iload 9, 2) := by decide +kernel
theorem dX9_turn_215 : decode cX9_turn 215 = .ok (.iload 10, 2) := by decide +kernel
theorem dX9_turn_217 : decode cX9_turn 217 = .ok (.iload 11, 2) := by decide +kernel
theorem dX9_turn_219 : decode cX9_turn 219 = .ok (.invokevirtual 137, 3) := by decide +kernel
theorem dX9_turn_222 : decode cX9_turn 222 = .ok (.iinc 4 1, 3) := by decide +kernel
theorem dX9_turn_225 : decode cX9_turn 225 = .ok (.goto (-193), 3) := by decide +kernel
theorem dX9_turn_228 : decode cX9_turn 228 = .ok (.iload_n 3, 1) := by decide +kernel
theorem dX9_turn_229 : decode cX9_turn 229 = .ok (.ifCond .ne 5, 3) := by decide +kernel
theorem dX9_turn_232 : decode cX9_turn 232 = .ok (.iconst (-1), 1) := by decide +kernel
theorem dX9_turn_233 : decode cX9_turn 233 = .ok (.ireturn, 1) := by decide +kernel
theorem dX9_turn_234 : decode cX9_turn 234 = .ok (.aload_n 0, 1) := by decide +kernel
theorem dX9_turn_235 : decode cX9_turn 235 = .ok (.getfield 124, 3) := by decide +kernel
theorem dX9_turn_238 : decode cX9_turn 238 = .ok (.bipush 8, 2) := by decide +kernel
theorem dX9_turn_240 : decode cX9_turn 240 = .ok (.if_icmp .ne 8, 3) := by decide +kernel
theorem dX9_turn_243 : decode cX9_turn 243 = .ok (.bipush (-3), 2) := by decide +kernel
theorem dX9_turn_245 : decode cX9_turn 245 = .ok (.goto 13, 3) := by decide +kernel
theorem dX9_turn_248 : decode cX9_turn 248 = .ok (.aload_n 0, 1) := by decide +kernel
theorem dX9_turn_249 : decode cX9_turn 249 = .ok (.aload_n 0, 1) := by decide +kernel
theorem dX9_turn_250 : decode cX9_turn 250 = .ok (.getfield 26, 3) := by decide +kernel
theorem dX9_turn_253 : decode cX9_turn 253 = .ok (.iload_n 1, 1) := by decide +kernel
theorem dX9_turn_254 : decode cX9_turn 254 = .ok (.iaload, 1) := by decide +kernel
theorem dX9_turn_255 : decode cX9_turn 255 = .ok (.invokevirtual 140, 3) := by decide +kernel
theorem dX9_turn_258 : decode cX9_turn 258 = .ok (.ireturn, 1) := by decide +kernel
set_option maxRecDepth 20000 in
theorem ggX9_join_X9_is : GoodIn wsX9_join wsX9_is := goodIn_r _ [9, 1, 10, 11, 8, 12, 83, 84, 85, 86, 87, 88, 89, 90, 91, 92, 93, 94, 95, 96, 97, 98, 99, 100, 101, 102, 103, 104, 105, 106] (by decide +kernel) (by decide +kernel)
set_option maxRecDepth 20000 in
theorem gX9_join_X9_is : GoodIn wsX9_join (wsV RX9 157 RX9 yX9_is wsX9_is) := goodIn_app (goodIn_of _ (by decide +kernel)) ggX9_join_X9_is
set_option maxRecDepth 20000 in
theorem ggX9_join_X9_point : GoodIn wsX9_join wsX9_point := goodIn_r _ [16, 3, 17, 18, 19, 20, 21, 22, 8, 23, 83, 84, 85, 86, 87, 88, 89, 90, 91, 92, 93, 94, 95, 96, 97, 98, 99, 100, 101, 102, 103, 104, 105, 106] (by decide +kernel) (by decide +kernel)
set_option maxRecDepth 20000 in
theorem gX9_join_X9_point : GoodIn wsX9_join (wsV RX9 137 RX9 yX9_point wsX9_point) := goodIn_app (goodIn_of _ (by decide +kernel)) ggX9_join_X9_point
set_option maxRecDepth 20000 in
theorem ggX9_join_X9_made : GoodIn wsX9_join wsX9_made := goodIn_p _ [27, 38, 42, 45, 49, 53, 57, 61, 65, 69, 74, 78, 82] rfl (by decide +kernel)
set_option maxRecDepth 20000 in
theorem gX9_join_X9_made : GoodIn wsX9_join (wsV RX9 140 RX9 yX9_made wsX9_made) := goodIn_app (goodIn_of _ (by decide +kernel)) ggX9_join_X9_made
theorem dX9_join_0 : decode cX9_join 0 = .ok (.aload_n 0, 1) := by decide +kernel
theorem dX9_join_1 : decode cX9_join 1 = .ok (.iload_n 1, 1) := by decide +kernel
theorem dX9_join_2 : decode cX9_join 2 = .ok (.invokevirtual 157, 3) := by decide +kernel
theorem dX9_join_5 : decode cX9_join 5 = .ok (.ifCond .eq 11, 3) := by decide +kernel
theorem dX9_join_8 : decode cX9_join 8 = .ok (.aload_n 0, 1) := by decide +kernel
theorem dX9_join_9 : decode cX9_join 9 = .ok (.iload_n 2, 1) := by decide +kernel
theorem dX9_join_10 : decode cX9_join 10 = .ok (.invokevirtual 157, 3) := by decide +kernel
theorem dX9_join_13 : decode cX9_join 13 = .ok (.ifCond .ne 5, 3) := by decide +kernel
theorem dX9_join_16 : decode cX9_join 16 = .ok (.iconst (-1), 1) := by decide +kernel
theorem dX9_join_17 : decode cX9_join 17 = .ok (.ireturn, 1) := by decide +kernel
theorem dX9_join_18 : decode cX9_join 18 = .ok (.aload_n 0, 1) := by decide +kernel
theorem dX9_join_19 : decode cX9_join 19 = .ok (.getfield 124, 3) := by decide +kernel
theorem dX9_join_22 : decode cX9_join 22 = .ok (.bipush 8, 2) := by decide +kernel
theorem dX9_join_24 : decode cX9_join 24 = .ok (.if_icmp .eq 21, 3) := by decide +kernel
theorem dX9_join_27 : decode cX9_join 27 = .ok (.aload_n 0, 1) := by decide +kernel
theorem dX9_join_28 : decode cX9_join 28 = .ok (.getfield 26, 3) := by decide +kernel
theorem dX9_join_31 : decode cX9_join 31 = .ok (.iload_n 1, 1) := by decide +kernel
theorem dX9_join_32 : decode cX9_join 32 = .ok (.iaload, 1) := by decide +kernel
theorem dX9_join_33 : decode cX9_join 33 = .ok (.aload_n 0, 1) := by decide +kernel
theorem dX9_join_34 : decode cX9_join 34 = .ok (.getfield 26, 3) := by decide +kernel
theorem dX9_join_37 : decode cX9_join 37 = .ok (.iload_n 2, 1) := by decide +kernel
theorem dX9_join_38 : decode cX9_join 38 = .ok (.iaload, 1) := by decide +kernel
theorem dX9_join_39 : decode cX9_join 39 = .ok (.iadd, 1) := by decide +kernel
theorem dX9_join_40 : decode cX9_join 40 = .ok (.bipush 40, 2) := by decide +kernel
theorem dX9_join_42 : decode cX9_join 42 = .ok (.if_icmp .le 6, 3) := by decide +kernel
theorem dX9_join_45 : decode cX9_join 45 = .ok (.bipush (-3), 2) := by decide +kernel
theorem dX9_join_47 : decode cX9_join 47 = .ok (.ireturn, 1) := by decide +kernel
theorem dX9_join_48 : decode cX9_join 48 = .ok (.aload_n 0, 1) := by decide +kernel
theorem dX9_join_49 : decode cX9_join 49 = .ok (.iconst 0, 1) := by decide +kernel
theorem dX9_join_50 : decode cX9_join 50 = .ok (.putfield 74, 3) := by decide +kernel
theorem dX9_join_53 : decode cX9_join 53 = .ok (.iconst 0, 1) := by decide +kernel
theorem dX9_join_54 : decode cX9_join 54 = .ok (.istore_n 3, 1) := by decide +kernel
theorem dX9_join_55 : decode cX9_join 55 = .ok (.iload_n 3, 1) := by decide +kernel
theorem dX9_join_56 : decode cX9_join 56 = .ok (.aload_n 0, 1) := by decide +kernel
theorem dX9_join_57 : decode cX9_join 57 = .ok (.getfield 26, 3) := by decide +kernel
theorem dX9_join_60 : decode cX9_join 60 = .ok (.iload_n 1, 1) := by decide +kernel
theorem dX9_join_61 : decode cX9_join 61 = .ok (.iaload, 1) := by decide +kernel
theorem dX9_join_62 : decode cX9_join 62 = .ok (.aload_n 0, 1) := by decide +kernel
theorem dX9_join_63 : decode cX9_join 63 = .ok (.getfield 26, 3) := by decide +kernel
theorem dX9_join_66 : decode cX9_join 66 = .ok (.iload_n 2, 1) := by decide +kernel
theorem dX9_join_67 : decode cX9_join 67 = .ok (.iaload, 1) := by decide +kernel
theorem dX9_join_68 : decode cX9_join 68 = .ok (.iadd, 1) := by decide +kernel
theorem dX9_join_69 : decode cX9_join 69 = .ok (.if_icmp .ge 76, 3) := by decide +kernel
theorem dX9_join_72 : decode cX9_join 72 = .ok (.iload_n 3, 1) := by decide +kernel
theorem dX9_join_73 : decode cX9_join 73 = .ok (.aload_n 0, 1) := by decide +kernel
theorem dX9_join_74 : decode cX9_join 74 = .ok (.getfield 26, 3) := by decide +kernel
theorem dX9_join_77 : decode cX9_join 77 = .ok (.iload_n 1, 1) := by decide +kernel
theorem dX9_join_78 : decode cX9_join 78 = .ok (.iaload, 1) := by decide +kernel
theorem dX9_join_79 : decode cX9_join 79 = .ok (.if_icmp .ge 14, 3) := by decide +kernel
theorem dX9_join_82 : decode cX9_join 82 = .ok (.bipush 120, 2) := by decide +kernel
theorem dX9_join_84 : decode cX9_join 84 = .ok (.iload_n 1, 1) := by decide +kernel
theorem dX9_join_85 : decode cX9_join 85 = .ok (.imul, 1) := by decide +kernel
theorem dX9_join_86 : decode cX9_join 86 = .ok (.iconst 3, 1) := by decide +kernel
theorem dX9_join_87 : decode cX9_join 87 = .ok (.iload_n 3, 1) := by decide +kernel
theorem dX9_join_88 : decode cX9_join 88 = .ok (.imul, 1) := by decide +kernel
theorem dX9_join_89 : decode cX9_join 89 = .ok (.iadd, 1) := by decide +kernel
theorem dX9_join_90 : decode cX9_join 90 = .ok (.goto 18, 3) := by decide +kernel
theorem dX9_join_93 : decode cX9_join 93 = .ok (.bipush 120, 2) := by decide +kernel
theorem dX9_join_95 : decode cX9_join 95 = .ok (.iload_n 2, 1) := by decide +kernel
theorem dX9_join_96 : decode cX9_join 96 = .ok (.imul, 1) := by decide +kernel
theorem dX9_join_97 : decode cX9_join 97 = .ok (.iconst 3, 1) := by decide +kernel
theorem dX9_join_98 : decode cX9_join 98 = .ok (.iload_n 3, 1) := by decide +kernel
theorem dX9_join_99 : decode cX9_join 99 = .ok (.aload_n 0, 1) := by decide +kernel
theorem dX9_join_100 : decode cX9_join 100 = .ok (.getfield 26, 3) := by decide +kernel
theorem dX9_join_103 : decode cX9_join 103 = .ok (.iload_n 1, 1) := by decide +kernel
theorem dX9_join_104 : decode cX9_join 104 = .ok (.iaload, 1) := by decide +kernel
theorem dX9_join_105 : decode cX9_join 105 = .ok (.isub, 1) := by decide +kernel
theorem dX9_join_106 : decode cX9_join 106 = .ok (.imul, 1) := by decide +kernel
theorem dX9_join_107 : decode cX9_join 107 = .ok (.iadd, 1) := by decide +kernel
theorem dX9_join_108 : decode cX9_join 108 = .ok (.istore 4, 2) := by decide +kernel
theorem dX9_join_110 : decode cX9_join 110 = .ok (.aload_n 0, 1) := by decide +kernel
theorem dX9_join_111 : decode cX9_join 111 = .ok (.aload_n 0, 1) := by decide +kernel
theorem dX9_join_112 : decode cX9_join 112 = .ok (.getfield 29, 3) := by decide +kernel
theorem dX9_join_115 : decode cX9_join 115 = .ok (.iload 4, 2) := by decide +kernel
theorem dX9_join_117 : decode cX9_join 117 = .ok (.iaload, 1) := by decide +kernel
theorem dX9_join_118 : decode cX9_join 118 = .ok (.aload_n 0, 1) := by decide +kernel
theorem dX9_join_119 : decode cX9_join 119 = .ok (.getfield 29, 3) := by decide +kernel
theorem dX9_join_122 : decode cX9_join 122 = .ok (.iload 4, 2) := by decide +kernel
theorem dX9_join_124 : decode cX9_join 124 = .ok (.iconst 1, 1) := by decide +kernel
theorem dX9_join_125 : decode cX9_join 125 = .ok (.iadd, 1) := by decide +kernel
theorem dX9_join_126 : decode cX9_join 126 = .ok (.iaload, 1) := by decide +kernel
theorem dX9_join_127 : decode cX9_join 127 = .ok (.aload_n 0, 1) := by decide +kernel
theorem dX9_join_128 : decode cX9_join 128 = .ok (.getfield 29, 3) := by decide +kernel
theorem dX9_join_131 : decode cX9_join 131 = .ok (.iload 4, 2) := by decide +kernel
theorem dX9_join_133 : decode cX9_join 133 = .ok (.iconst 2, 1) := by decide +kernel
theorem dX9_join_134 : decode cX9_join 134 = .ok (.iadd, 1) := by decide +kernel
theorem dX9_join_135 : decode cX9_join 135 = .ok (.iaload, 1) := by decide +kernel
theorem dX9_join_136 : decode cX9_join 136 = .ok (.invokevirtual 137, 3) := by decide +kernel
theorem dX9_join_139 : decode cX9_join 139 = .ok (.iinc 3 1, 3) := by decide +kernel
theorem dX9_join_142 : decode cX9_join 142 = .ok (.goto (-87), 3) := by decide +kernel
