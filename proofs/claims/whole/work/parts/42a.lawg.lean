set_option maxRecDepth 20000 in
theorem gT_X8_init : GoodIn lw_tbl (wsX8_init) := goodIn_p wsX8_init [66, 69, 74, 78, 119, 127, 158, 205] rfl (by decide +kernel)
set_option maxRecDepth 20000 in
theorem gT_X9_init : GoodIn lw_tbl (wsX9_init) := goodIn_p wsX9_init [753, 69] rfl (by decide +kernel)
set_option maxRecDepth 20000 in
theorem gT_X8_corner : GoodIn lw_tbl (wsV RL 13 RX8 yX8_corner wsX8_corner) := goodIn_app (goodIn_of _ (by decide +kernel)) (goodIn_p wsX8_corner [239, 242, 245, 249] rfl (by decide +kernel))
set_option maxRecDepth 20000 in
theorem gT_X9_corner : GoodIn lw_tbl (wsV RL 17 RX9 yX9_corner wsX9_corner) := goodIn_app (goodIn_of _ (by decide +kernel)) (goodIn_p wsX9_corner [831, 836, 840] rfl (by decide +kernel))
set_option maxRecDepth 20000 in
theorem gT_X8_sheaf : GoodIn lw_tbl (wsV RL 18 RX8 yX8_sheaf wsX8_sheaf) := goodIn_app (goodIn_of _ (by decide +kernel)) (goodIn_p wsX8_sheaf [253, 256, 259, 263] rfl (by decide +kernel))
set_option maxRecDepth 20000 in
theorem gT_X9_sheaf : GoodIn lw_tbl (wsV RL 21 RX9 yX9_sheaf wsX9_sheaf) := goodIn_app (goodIn_of _ (by decide +kernel)) (goodIn_p wsX9_sheaf [844, 836] rfl (by decide +kernel))
set_option maxRecDepth 20000 in
theorem gT_X8_lay : GoodIn lw_tbl (wsV RL 24 RX8 yX8_lay wsX8_lay) := goodIn_app (goodIn_of _ (by decide +kernel)) (goodIn_p wsX8_lay [267, 256, 271] rfl (by decide +kernel))
set_option maxRecDepth 20000 in
theorem gT_X9_lay : GoodIn lw_tbl (wsV RL 28 RX9 yX9_lay wsX9_lay) := goodIn_app (goodIn_of _ (by decide +kernel)) (goodIn_p wsX9_lay [849, 836] rfl (by decide +kernel))
set_option maxRecDepth 20000 in
theorem gT_X8_draw : GoodIn lw_tbl (wsV RL 29 RX8 yX8_draw wsX8_draw) := goodIn_app (goodIn_of _ (by decide +kernel)) (goodIn_p wsX8_draw [275, 256, 259, 279, 283, 242, 245, 249] rfl (by decide +kernel))
set_option maxRecDepth 20000 in
theorem gT_X9_draw : GoodIn lw_tbl (wsV RL 32 RX9 yX9_draw wsX9_draw) := goodIn_app (goodIn_of _ (by decide +kernel)) (goodIn_p wsX9_draw [853, 836, 840] rfl (by decide +kernel))
set_option maxRecDepth 20000 in
theorem gT_X8_clear : GoodIn lw_tbl (wsV RL 33 RX8 yX8_clear wsX8_clear) := goodIn_app (goodIn_of _ (by decide +kernel)) (goodIn_p wsX8_clear [287] rfl (by decide +kernel))
set_option maxRecDepth 20000 in
theorem gT_X9_clear : GoodIn lw_tbl (wsV RL 37 RX9 yX9_clear wsX9_clear) := goodIn_app (goodIn_of _ (by decide +kernel)) (goodIn_p wsX9_clear [857] rfl (by decide +kernel))
set_option maxRecDepth 20000 in
theorem gT_X8_body : GoodIn lw_tbl (wsV RL 38 RX8 yX8_body wsX8_body) := goodIn_app (goodIn_of _ (by decide +kernel)) (goodIn_p wsX8_body [291, 295, 299, 249, 304, 308, 312, 316, 320, 324, 328, 332, 336, 340, 344, 348, 352, 356, 360, 364, 368, 372, 375, 378, 382, 386, 390, 394, 398, 402, 406, 410, 416, 420, 424, 429, 74, 69, 78, 438, 127, 444, 454, 451] rfl (by decide +kernel))
set_option maxRecDepth 20000 in
theorem gT_X9_body : GoodIn lw_tbl (wsV RL 41 RX9 yX9_body wsX9_body) := goodIn_app (goodIn_of _ (by decide +kernel)) (goodIn_p wsX9_body [861, 865, 869, 873, 877, 881, 884, 888, 892, 896, 900, 904, 908, 912, 916, 920] rfl (by decide +kernel))
