set_option maxRecDepth 20000 in
theorem wl_22 : ∀ w ∈ wsL_law_r22, w ∈ lw_tbl := fun w h => (goodIn_p wsL_law_r22 [948, 516, 519, 952, 524] rfl (by decide +kernel) w h).1
set_option maxRecDepth 20000 in
theorem wl_23 : ∀ w ∈ wsL_law_r23, w ∈ lw_tbl := fun w h => (goodIn_p wsL_law_r23 [528, 957, 532, 536, 961] rfl (by decide +kernel) w h).1
set_option maxRecDepth 20000 in
theorem wl_24 : ∀ w ∈ wsL_law_r24, w ∈ lw_tbl := fun w h => (goodIn_p wsL_law_r24 [541, 546, 965, 972, 550] rfl (by decide +kernel) w h).1
set_option maxRecDepth 20000 in
theorem wl_25 : ∀ w ∈ wsL_law_r25, w ∈ lw_tbl := fun w h => (goodIn_p wsL_law_r25 [554, 558, 562] rfl (by decide +kernel) w h).1
set_option maxRecDepth 20000 in
theorem wl_26 : ∀ w ∈ wsL_law_r26, w ∈ lw_tbl := fun w h => (goodIn_p wsL_law_r26 [568, 572, 576] rfl (by decide +kernel) w h).1
set_option maxRecDepth 20000 in
theorem wl_27 : ∀ w ∈ wsL_law_r27, w ∈ lw_tbl := fun w h => (goodIn_p wsL_law_r27 [579, 584, 625, 630, 644] rfl (by decide +kernel) w h).1
set_option maxRecDepth 20000 in
theorem wl_28 : ∀ w ∈ wsL_law_r28, w ∈ lw_tbl := fun w h => (goodIn_p wsL_law_r28 [976, 980, 984, 649, 652, 988] rfl (by decide +kernel) w h).1
set_option maxRecDepth 20000 in
theorem wl_29 : ∀ w ∈ wsL_law_r29, w ∈ lw_tbl := fun w h => (goodIn_p wsL_law_r29 [656, 992, 997, 661, 1001] rfl (by decide +kernel) w h).1
set_option maxRecDepth 20000 in
theorem wl_30 : ∀ w ∈ wsL_law_r30, w ∈ lw_tbl := fun w h => (goodIn_p wsL_law_r30 [666, 670, 1008, 1011, 675] rfl (by decide +kernel) w h).1
set_option maxRecDepth 20000 in
theorem wl_31 : ∀ w ∈ wsL_law_r31, w ∈ lw_tbl := fun w h => (goodIn_p wsL_law_r31 [680, 1015, 1019, 685, 689] rfl (by decide +kernel) w h).1
set_option maxRecDepth 20000 in
theorem wl_32 : ∀ w ∈ wsL_law_r32, w ∈ lw_tbl := fun w h => (goodIn_p wsL_law_r32 [1023, 693, 697, 1027, 1031] rfl (by decide +kernel) w h).1
set_option maxRecDepth 20000 in
theorem wl_33 : ∀ w ∈ wsL_law_r33, w ∈ lw_tbl := fun w h => (goodIn_p wsL_law_r33 [701, 705, 1035, 709, 1040, 713] rfl (by decide +kernel) w h).1
set_option maxRecDepth 20000 in
theorem wl_34 : ∀ w ∈ wsL_law_r34, w ∈ lw_tbl := fun w h => (goodIn_p wsL_law_r34 [717, 1044, 722, 726, 1048] rfl (by decide +kernel) w h).1
set_option maxRecDepth 20000 in
theorem wl_35 : ∀ w ∈ wsL_law_r35, w ∈ lw_tbl := fun w h => (goodIn_p wsL_law_r35 [731, 735, 1052, 740, 744, 1056] rfl (by decide +kernel) w h).1
set_option maxRecDepth 20000 in
theorem wl_36 : ∀ w ∈ wsL_law_r36, w ∈ lw_tbl := fun w h => (goodIn_p wsL_law_r36 [748, 1062] rfl (by decide +kernel) w h).1
theorem wl_c8 : ∀ w ∈ wsX80, w ∈ lw_tbl := by decide +kernel
theorem wl_c9 : ∀ w ∈ wsX90, w ∈ lw_tbl := by decide +kernel
theorem wl_c4 : ∀ w ∈ wsX40, w ∈ lw_tbl := by decide +kernel
theorem wl_c3 : ∀ w ∈ wsX30, w ∈ lw_tbl := by decide +kernel
theorem wl_c5 : ∀ w ∈ wsX50, w ∈ lw_tbl := by decide +kernel
theorem wl_c1 : ∀ w ∈ wsX10, w ∈ lw_tbl := by decide +kernel
theorem wl_c6 : ∀ w ∈ wsX60, w ∈ lw_tbl := by decide +kernel
theorem wl_c0 : ∀ w ∈ wsX00, w ∈ lw_tbl := by decide +kernel
theorem wl_c2 : ∀ w ∈ wsX20, w ∈ lw_tbl := by decide +kernel
theorem wl_c7 : ∀ w ∈ wsX70, w ∈ lw_tbl := by decide +kernel
theorem wsL_law_in : ∀ w ∈ wsL_law, w ∈ lw_tbl := (List.forall_mem_append.mpr ⟨(List.forall_mem_append.mpr ⟨(List.forall_mem_append.mpr ⟨(List.forall_mem_append.mpr ⟨(List.forall_mem_append.mpr ⟨(List.forall_mem_append.mpr ⟨(List.forall_mem_append.mpr ⟨(List.forall_mem_append.mpr ⟨(List.forall_mem_append.mpr ⟨(List.forall_mem_append.mpr ⟨(List.forall_mem_append.mpr ⟨(List.forall_mem_append.mpr ⟨wl_1, (List.forall_mem_append.mpr ⟨wl_2, (List.forall_mem_append.mpr ⟨wl_3, (List.forall_mem_append.mpr ⟨wl_4, (List.forall_mem_append.mpr ⟨wl_5, (List.forall_mem_append.mpr ⟨wl_6, (List.forall_mem_append.mpr ⟨wl_7, (List.forall_mem_append.mpr ⟨wl_8, (List.forall_mem_append.mpr ⟨wl_9, (List.forall_mem_append.mpr ⟨wl_10, (List.forall_mem_append.mpr ⟨wl_11, (List.forall_mem_append.mpr ⟨wl_12, (List.forall_mem_append.mpr ⟨wl_13, (List.forall_mem_append.mpr ⟨wl_14, (List.forall_mem_append.mpr ⟨wl_15, (List.forall_mem_append.mpr ⟨wl_16, (List.forall_mem_append.mpr ⟨wl_17, (List.forall_mem_append.mpr ⟨wl_18, (List.forall_mem_append.mpr ⟨wl_19, (List.forall_mem_append.mpr ⟨wl_20, (List.forall_mem_append.mpr ⟨wl_21, (List.forall_mem_append.mpr ⟨wl_22, (List.forall_mem_append.mpr ⟨wl_23, (List.forall_mem_append.mpr ⟨wl_24, (List.forall_mem_append.mpr ⟨wl_25, (List.forall_mem_append.mpr ⟨wl_26, (List.forall_mem_append.mpr ⟨wl_27, (List.forall_mem_append.mpr ⟨wl_28, (List.forall_mem_append.mpr ⟨wl_29, (List.forall_mem_append.mpr ⟨wl_30, (List.forall_mem_append.mpr ⟨wl_31, (List.forall_mem_append.mpr ⟨wl_32, (List.forall_mem_append.mpr ⟨wl_33, (List.forall_mem_append.mpr ⟨wl_34, (List.forall_mem_append.mpr ⟨wl_35, wl_36⟩)⟩)⟩)⟩)⟩)⟩)⟩)⟩)⟩)⟩)⟩)⟩)⟩)⟩)⟩)⟩)⟩)⟩)⟩)⟩)⟩)⟩)⟩)⟩)⟩)⟩)⟩)⟩)⟩)⟩)⟩)⟩)⟩)⟩)⟩), wl_c8⟩), wl_c9⟩), wl_c4⟩), wl_c3⟩), wl_c5⟩), wl_c1⟩), wl_c6⟩), wl_c0⟩), wl_c2⟩), wl_c7⟩), fun _ h => absurd h List.not_mem_nil⟩)
