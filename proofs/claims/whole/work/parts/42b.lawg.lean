set_option maxRecDepth 20000 in
theorem gT_X8_drop : GoodIn lw_tbl (wsV RL 42 RX8 yX8_drop wsX8_drop) := goodIn_app (goodIn_of _ (by decide +kernel)) (goodIn_p wsX8_drop [492] rfl (by decide +kernel))
set_option maxRecDepth 20000 in
theorem gT_X9_drop : GoodIn lw_tbl (wsV RL 45 RX9 yX9_drop wsX9_drop) := goodIn_app (goodIn_of _ (by decide +kernel)) (goodIn_p wsX9_drop [924] rfl (by decide +kernel))
set_option maxRecDepth 20000 in
theorem gT_X8_about : GoodIn lw_tbl (wsV RL 46 RX8 yX8_about wsX8_about) := goodIn_app (goodIn_of _ (by decide +kernel)) (goodIn_p wsX8_about [496, 500, 504, 508, 451, 512] rfl (by decide +kernel))
set_option maxRecDepth 20000 in
theorem gT_X9_about : GoodIn lw_tbl (wsV RL 50 RX9 yX9_about wsX9_about) := goodIn_app (goodIn_of _ (by decide +kernel)) (goodIn_p wsX9_about [928, 932, 836, 936, 940, 944, 948] rfl (by decide +kernel))
set_option maxRecDepth 20000 in
theorem gT_X8_cornerOf : GoodIn lw_tbl (wsV RL 51 RX8 yX8_cornerOf wsX8_cornerOf) := goodIn_app (goodIn_of _ (by decide +kernel)) (goodIn_p wsX8_cornerOf [516, 500, 519, 451] rfl (by decide +kernel))
set_option maxRecDepth 20000 in
theorem gT_X9_cornerOf : GoodIn lw_tbl (wsV RL 54 RX9 yX9_cornerOf wsX9_cornerOf) := goodIn_app (goodIn_of _ (by decide +kernel)) (goodIn_p wsX9_cornerOf [952, 932, 836] rfl (by decide +kernel))
set_option maxRecDepth 20000 in
theorem gT_X8_side : GoodIn lw_tbl (wsV RL 55 RX8 yX8_side wsX8_side) := goodIn_app (goodIn_of _ (by decide +kernel)) (goodIn_p wsX8_side [524, 500, 528] rfl (by decide +kernel))
set_option maxRecDepth 20000 in
theorem gT_X9_side_ : GoodIn lw_tbl (wsV RL 58 RX9 yX9_side_ wsX9_side_) := goodIn_app (goodIn_of _ (by decide +kernel)) (goodIn_p wsX9_side_ [957, 932, 836] rfl (by decide +kernel))
set_option maxRecDepth 20000 in
theorem gT_X8_on : GoodIn lw_tbl (wsV RL 59 RX8 yX8_on wsX8_on) := goodIn_app (goodIn_of _ (by decide +kernel)) (goodIn_p wsX8_on [532, 500, 536, 424] rfl (by decide +kernel))
set_option maxRecDepth 20000 in
theorem gT_X9_on : GoodIn lw_tbl (wsV RL 62 RX9 yX9_on wsX9_on) := goodIn_app (goodIn_of _ (by decide +kernel)) (goodIn_p wsX9_on [961, 932, 836, 920] rfl (by decide +kernel))
set_option maxRecDepth 20000 in
theorem gT_X8_has : GoodIn lw_tbl (wsV RL 63 RX8 yX8_has wsX8_has) := goodIn_app (goodIn_of _ (by decide +kernel)) (goodIn_p wsX8_has [541, 500, 245, 546, 424] rfl (by decide +kernel))
set_option maxRecDepth 20000 in
theorem gT_X9_has : GoodIn lw_tbl (wsV RL 67 RX9 yX9_has wsX9_has) := goodIn_app (goodIn_of _ (by decide +kernel)) (goodIn_p wsX9_has [965, 932, 836, 972] rfl (by decide +kernel))
set_option maxRecDepth 20000 in
theorem gT_X8_count : GoodIn lw_tbl (wsV RL 68 RX8 yX8_count wsX8_count) := goodIn_app (goodIn_of _ (by decide +kernel)) (goodIn_p wsX8_count [550, 500, 554, 558, 78, 454, 562, 69, 568, 572, 576, 579, 584, 625, 630, 644] rfl (by decide +kernel))
set_option maxRecDepth 20000 in
theorem gT_X9_count : GoodIn lw_tbl (wsV RL 71 RX9 yX9_count wsX9_count) := goodIn_app (goodIn_of _ (by decide +kernel)) (goodIn_p wsX9_count [976, 932, 836, 980, 984, 940, 944, 972] rfl (by decide +kernel))
