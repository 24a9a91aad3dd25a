set_option maxRecDepth 20000 in
theorem gT_X8_inner : GoodIn lw_tbl (wsV RL 72 RX8 yX8_inner wsX8_inner) := goodIn_app (goodIn_of _ (by decide +kernel)) (goodIn_p wsX8_inner [649, 500, 652, 554, 558, 78, 454, 562, 69, 568, 572, 576, 579, 584, 625, 630, 644] rfl (by decide +kernel))
set_option maxRecDepth 20000 in
theorem gT_X9_inner : GoodIn lw_tbl (wsV RL 75 RX9 yX9_inner wsX9_inner) := goodIn_app (goodIn_of _ (by decide +kernel)) (goodIn_p wsX9_inner [988, 932, 836, 984, 940, 944, 972] rfl (by decide +kernel))
set_option maxRecDepth 20000 in
theorem gT_X8_number : GoodIn lw_tbl (wsV RL 76 RX8 yX8_number wsX8_number) := goodIn_app (goodIn_of _ (by decide +kernel)) (goodIn_p wsX8_number [656, 500, 554, 558, 78, 454, 562, 69, 568, 572, 576, 579, 584, 625, 630] rfl (by decide +kernel))
set_option maxRecDepth 20000 in
theorem gT_X9_number : GoodIn lw_tbl (wsV RL 79 RX9 yX9_number wsX9_number) := goodIn_app (goodIn_of _ (by decide +kernel)) (goodIn_p wsX9_number [992, 932, 836, 997, 980, 984, 940, 944, 972] rfl (by decide +kernel))
set_option maxRecDepth 20000 in
theorem gT_X8_rule : GoodIn lw_tbl (wsV RL 80 RX8 yX8_rule wsX8_rule) := goodIn_app (goodIn_of _ (by decide +kernel)) (goodIn_p wsX8_rule [661, 500, 245, 554, 558, 78, 454, 562, 69, 568, 572, 576, 579, 584, 625, 630, 644] rfl (by decide +kernel))
set_option maxRecDepth 20000 in
theorem gT_X9_rule : GoodIn lw_tbl (wsV RL 84 RX9 yX9_rule wsX9_rule) := goodIn_app (goodIn_of _ (by decide +kernel)) (goodIn_p wsX9_rule [1001, 932, 836, 997, 980, 984, 940, 944, 972] rfl (by decide +kernel))
set_option maxRecDepth 20000 in
theorem gT_X8_stairs : GoodIn lw_tbl (wsV RL 85 RX8 yX8_stairs wsX8_stairs) := goodIn_app (goodIn_of _ (by decide +kernel)) (goodIn_p wsX8_stairs [666, 500, 554, 558, 78, 454, 562, 69, 568, 572, 576, 579, 584, 625, 630, 670, 644] rfl (by decide +kernel))
set_option maxRecDepth 20000 in
theorem gT_X9_stairs : GoodIn lw_tbl (wsV RL 88 RX9 yX9_stairs wsX9_stairs) := goodIn_app (goodIn_of _ (by decide +kernel)) (goodIn_p wsX9_stairs [1008, 932, 836, 1011, 980, 984, 940, 944, 972] rfl (by decide +kernel))
set_option maxRecDepth 20000 in
theorem gT_X8_point : GoodIn lw_tbl (wsV RL 89 RX8 yX8_point wsX8_point) := goodIn_app (goodIn_of _ (by decide +kernel)) (goodIn_p wsX8_point [675, 500, 652, 519, 558, 78, 454, 562, 69, 568, 572, 576, 579, 584, 680, 625] rfl (by decide +kernel))
set_option maxRecDepth 20000 in
theorem gT_X9_point_ : GoodIn lw_tbl (wsV RL 93 RX9 yX9_point_ wsX9_point_) := goodIn_app (goodIn_of _ (by decide +kernel)) (goodIn_p wsX9_point_ [1015, 932, 836, 1019, 940, 944, 972] rfl (by decide +kernel))
set_option maxRecDepth 20000 in
theorem gT_X8_rank : GoodIn lw_tbl (wsV RL 94 RX8 yX8_rank wsX8_rank) := goodIn_app (goodIn_of _ (by decide +kernel)) (goodIn_p wsX8_rank [685, 500, 652, 558, 78, 454, 562, 69, 568, 572, 576, 579, 584, 689] rfl (by decide +kernel))
set_option maxRecDepth 20000 in
theorem gT_X9_rank : GoodIn lw_tbl (wsV RL 97 RX9 yX9_rank wsX9_rank) := goodIn_app (goodIn_of _ (by decide +kernel)) (goodIn_p wsX9_rank [1023, 932, 836, 1019, 940, 944, 972] rfl (by decide +kernel))
set_option maxRecDepth 20000 in
theorem gT_X8_move : GoodIn lw_tbl (wsV RL 98 RX8 yX8_move wsX8_move) := goodIn_app (goodIn_of _ (by decide +kernel)) (goodIn_p wsX8_move [693, 500, 295, 697, 242, 245, 249, 304, 308, 312, 316, 320, 324, 328, 332, 336, 340, 344, 348, 352, 356, 360, 364, 368, 372, 375, 378, 382, 386, 390, 394, 398, 402, 406, 410, 416, 420, 424, 429, 74, 69, 78, 438, 127, 444, 454, 451] rfl (by decide +kernel))
set_option maxRecDepth 20000 in
theorem gT_X9_move : GoodIn lw_tbl (wsV RL 101 RX9 yX9_move wsX9_move) := goodIn_app (goodIn_of _ (by decide +kernel)) (goodIn_p wsX9_move [1027, 932, 836, 1031, 940, 944, 865, 869, 873, 877, 881, 884, 888, 892, 896, 900, 904, 908, 912, 916, 920] rfl (by decide +kernel))
