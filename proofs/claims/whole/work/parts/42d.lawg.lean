set_option maxRecDepth 20000 in
theorem gT_X8_turn : GoodIn lw_tbl (wsV RL 102 RX8 yX8_turn wsX8_turn) := goodIn_app (goodIn_of _ (by decide +kernel)) (goodIn_p wsX8_turn [701, 500, 295, 705, 697, 242, 245, 249, 304, 308, 312, 316, 320, 324, 328, 332, 336, 340, 344, 348, 352, 356, 360, 364, 368, 372, 375, 378, 382, 386, 390, 394, 398, 402, 406, 410, 416, 420, 424, 429, 74, 69, 78, 438, 127, 444, 454, 451] rfl (by decide +kernel))
set_option maxRecDepth 20000 in
theorem gT_X9_turn : GoodIn lw_tbl (wsV RL 105 RX9 yX9_turn wsX9_turn) := goodIn_app (goodIn_of _ (by decide +kernel)) (goodIn_p wsX9_turn [1035, 932, 836, 865, 869, 873, 877, 881, 884, 888, 892, 896, 900, 904, 908, 912, 916, 920] rfl (by decide +kernel))
set_option maxRecDepth 20000 in
theorem gT_X8_join : GoodIn lw_tbl (wsV RL 106 RX8 yX8_join wsX8_join) := goodIn_app (goodIn_of _ (by decide +kernel)) (goodIn_p wsX8_join [709, 500, 295, 299, 249, 304, 308, 312, 316, 320, 324, 328, 332, 336, 340, 344, 348, 352, 356, 360, 364, 368, 372, 375, 378, 382, 386, 390, 394, 398, 402, 406, 410, 416, 420, 424, 429, 74, 69, 78, 438, 127, 444, 454, 451] rfl (by decide +kernel))
set_option maxRecDepth 20000 in
theorem gT_X9_join : GoodIn lw_tbl (wsV RL 109 RX9 yX9_join wsX9_join) := goodIn_app (goodIn_of _ (by decide +kernel)) (goodIn_p wsX9_join [1040, 932, 836, 865, 869, 873, 877, 881, 884, 888, 892, 896, 900, 904, 908, 912, 916, 920] rfl (by decide +kernel))
set_option maxRecDepth 20000 in
theorem gT_X8_slice : GoodIn lw_tbl (wsV RL 110 RX8 yX8_slice wsX8_slice) := goodIn_app (goodIn_of _ (by decide +kernel)) (goodIn_p wsX8_slice [713, 500, 519, 295, 558, 78, 454, 562, 69, 568, 572, 576, 579, 584, 717, 249, 304, 308, 312, 316, 320, 324, 328, 332, 336, 340, 344, 348, 352, 356, 360, 364, 368, 372, 375, 378, 382, 386, 390, 394, 398, 402, 406, 410, 416, 420, 424, 429, 74, 438, 127, 444, 451] rfl (by decide +kernel))
set_option maxRecDepth 20000 in
theorem gT_X9_slice : GoodIn lw_tbl (wsV RL 113 RX9 yX9_slice wsX9_slice) := goodIn_app (goodIn_of _ (by decide +kernel)) (goodIn_p wsX9_slice [1044, 932, 836, 940, 944, 972, 865, 869, 873, 877, 881, 884, 888, 892, 896, 900, 904, 908, 912, 916, 920] rfl (by decide +kernel))
set_option maxRecDepth 20000 in
theorem gT_X8_within : GoodIn lw_tbl (wsV RL 114 RX8 yX8_within wsX8_within) := goodIn_app (goodIn_of _ (by decide +kernel)) (goodIn_p wsX8_within [722, 500, 726, 546, 424] rfl (by decide +kernel))
set_option maxRecDepth 20000 in
theorem gT_X9_within : GoodIn lw_tbl (wsV RL 117 RX9 yX9_within wsX9_within) := goodIn_app (goodIn_of _ (by decide +kernel)) (goodIn_p wsX9_within [1048, 932, 836, 972] rfl (by decide +kernel))
set_option maxRecDepth 20000 in
theorem gT_X8_same : GoodIn lw_tbl (wsV RL 118 RX8 yX8_same wsX8_same) := goodIn_app (goodIn_of _ (by decide +kernel)) (goodIn_p wsX8_same [731, 500, 735, 316] rfl (by decide +kernel))
set_option maxRecDepth 20000 in
theorem gT_X9_same : GoodIn lw_tbl (wsV RL 121 RX9 yX9_same wsX9_same) := goodIn_app (goodIn_of _ (by decide +kernel)) (goodIn_p wsX9_same [1052, 932, 836] rfl (by decide +kernel))
set_option maxRecDepth 20000 in
theorem gT_X8_most : GoodIn lw_tbl (wsV RL 122 RX8 yX8_most wsX8_most) := goodIn_app (goodIn_of _ (by decide +kernel)) (goodIn_p wsX8_most [740, 500, 245, 744, 78] rfl (by decide +kernel))
set_option maxRecDepth 20000 in
theorem gT_X9_most : GoodIn lw_tbl (wsV RL 126 RX9 yX9_most wsX9_most) := goodIn_app (goodIn_of _ (by decide +kernel)) (goodIn_p wsX9_most [1056, 932, 836] rfl (by decide +kernel))
set_option maxRecDepth 20000 in
theorem gT_X8_all : GoodIn lw_tbl (wsV RL 127 RX8 yX8_all wsX8_all) := goodIn_app (goodIn_of _ (by decide +kernel)) (goodIn_p wsX8_all [748] rfl (by decide +kernel))
set_option maxRecDepth 20000 in
theorem gT_X9_all : GoodIn lw_tbl (wsV RL 131 RX9 yX9_all wsX9_all) := goodIn_app (goodIn_of _ (by decide +kernel)) (goodIn_p wsX9_all [1062] rfl (by decide +kernel))
