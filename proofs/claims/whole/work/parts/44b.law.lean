set_option maxRecDepth 20000 in
set_option maxHeartbeats 4000000 in
theorem lc_number {p : Program} {e : Env} {s : State} {m : MethodId} {below : List Frame} {meth : Method} {c : Code} (l : Launch) {b L : Nat} {xs : Nat → Int32} {G : GT} {Rl : XCt → MCt → Prop} (C0 : lw_At p s m meth c b L xs) (hK : va_K (gD G) vwCl (gT G) s) (hN : gN s) {Q : State → Prop} {A : XAd} {C : XCt} {D : MAd} {M : MCt} {H : Heap} {locs : List Loc} {i : Int32} {cells slots : Nat} {ls : Array Slot} (hi : 0 ≤ i.toInt ∧ i.toInt + 6 ≤ L ∧ L ≤ 3072) (hP : va_P (gD G) vwCl (xW G A C ++ mW G D M) H) (hD : va_D (nwA s) (xW G A C ++ mW G D M)) (hS : va_S (nwA s) s.heap H locs) (hl : lv_has ls 4 [(3, .int i), (2, .ref D.h), (1, .ref A.h), (0, .ref b)]) (hce : cells + 100 ≤ 600000) (hsl : slots + 4400 ≤ room_1.slots) (hsim : SimI l G Rl A C D M yX8_number wsX8_number yX9_number wsX9_number [.int (xs (i + 1).toNatClampNeg), .int (xs (i + 2).toNatClampNeg)])
    (kk : ∀ (A' : XAd) (C' : XCt) (M' : MCt) (H1 : Heap) (locs1 : List Loc), A'.h = A.h → xok A' C' → Rl C' M' → va_P (gD G) vwCl (xW G A' C' ++ mW G D M') H1 → va_D (nwA s) (xW G A' C' ++ mW G D M') → va_S (nwA s) s.heap H1 locs1 → W p l e room_1 s m #[Value.ref b] below meth c H1 locs1 (cells + 100) (slots + 4400) Q (F0 m 1224 ls [])) : W p l e room_1 s m #[Value.ref b] below meth c H locs cells slots Q (F0 m 678 ls []) := by
  obtain ⟨hx, hb, hr, hml, hown, hts, hX, hbl, hlocks, -⟩ := C0
  obtain ⟨r, M', hXK, hMK⟩ := hsim
  have hown : s.vm.findClass RL = some m.cls := hown
  have hA : ∀ q : Nat, s.heap.size ≤ q → nwA s q := fun _ h => h
  have hbA : ¬ nwA s b := Nat.not_le.mpr hbl
  refine lv_aload_n hx hb dL_law_678 rfl (lv_at hl 2 rfl) ?_
  refine lv_aload_n hx hb dL_law_679 rfl (lv_at hl 3 rfl) ?_
  refine lv_iload_n hx hb dL_law_680 rfl (lv_at hl 0 rfl) ?_
  refine lv_iconst (v := 1) hx hb dL_law_681 (by decide) ?_
  refine lv_iadd hx hb dL_law_682 ?_
  refine va_sld hx hb hX hbl hbA hS (lw_in hi.1 hi.2.1 hi.2.2 1 (by decide)) dL_law_683 ?_
  refine lv_aload_n hx hb dL_law_684 rfl (lv_at hl 3 rfl) ?_
  refine lv_iload_n hx hb dL_law_685 rfl (lv_at hl 0 rfl) ?_
  refine lv_iconst (v := 2) hx hb dL_law_686 (by decide) ?_
  refine lv_iadd hx hb dL_law_687 ?_
  refine va_sld hx hb hX hbl hbA hS (lw_in hi.1 hi.2.1 hi.2.2 2 (by decide)) dL_law_688 ?_
  refine ke_V (q := (RX8, TX8, 5)) (q0 := 0) (As := [.int (xs (i + 1).toNatClampNeg), .int (xs (i + 2).toNatClampNeg)]) (rest := []) 8 (hXK.frame (mW G D M)) ⟨hx, hb, hml, hown, hts⟩ (fun rm mc ms h1 h2 h3 h4 => cwV 2 hts gT_X8_number rfl h1 h2 (by decide +kernel) ⟨Nat.le_trans (Nat.add_le_add_right h3 1) (Nat.le_of_ble_eq_true rfl), Nat.le_trans (Nat.add_le_add_left h4 _) (Nat.le_of_ble_eq_true rfl)⟩) hK hN hP hD hS hA rfl rfl rfl hl.1 rfl (lv_room (Nat.le_of_ble_eq_true rfl)) dL_law_689 ⟨by show cells + 50 ≤ 600000; omega, by show slots + 2200 ≤ room_1.slots; omega⟩ (fun v w H locs hQ hP hD hS => ?_)
  obtain ⟨w', ⟨rfl, A', C', hA', hR', hok', rfl⟩, rfl⟩ := hQ
  have hP := vP_perm List.perm_append_comm hP
  have hD := vD_perm List.perm_append_comm hD
  refine lv_aload_n hx hb dL_law_692 rfl (lv_at hl 1 rfl) ?_
  refine lv_aload_n hx hb dL_law_693 rfl (lv_at hl 3 rfl) ?_
  refine lv_iload_n hx hb dL_law_694 rfl (lv_at hl 0 rfl) ?_
  refine lv_iconst (v := 1) hx hb dL_law_695 (by decide) ?_
  refine lv_iadd hx hb dL_law_696 ?_
  refine va_sld hx hb hX hbl hbA hS (lw_in hi.1 hi.2.1 hi.2.2 1 (by decide)) dL_law_697 ?_
  refine lv_aload_n hx hb dL_law_698 rfl (lv_at hl 3 rfl) ?_
  refine lv_iload_n hx hb dL_law_699 rfl (lv_at hl 0 rfl) ?_
  refine lv_iconst (v := 2) hx hb dL_law_700 (by decide) ?_
  refine lv_iadd hx hb dL_law_701 ?_
  refine va_sld hx hb hX hbl hbA hS (lw_in hi.1 hi.2.1 hi.2.2 2 (by decide)) dL_law_702 ?_
  refine ke_V (q := (RX9, TX9, 24)) (q0 := 0) (As := [.int (xs (i + 1).toNatClampNeg), .int (xs (i + 2).toNatClampNeg)]) (rest := [.int r]) 9 (hMK.frame (xW G A' C')) ⟨hx, hb, hml, hown, hts⟩ (fun rm mc ms h1 h2 h3 h4 => cwV 2 hts gT_X9_number rfl h1 h2 (by decide +kernel) ⟨Nat.le_trans (Nat.add_le_add_right h3 1) (Nat.le_of_ble_eq_true rfl), Nat.le_trans (Nat.add_le_add_left h4 _) (Nat.le_of_ble_eq_true rfl)⟩) hK hN hP hD hS hA rfl rfl rfl hl.1 rfl (lv_room (Nat.le_of_ble_eq_true rfl)) dL_law_703 ⟨by show cells + 50 + 50 ≤ 600000; omega, by show slots + 2200 + 2200 ≤ room_1.slots; omega⟩ (fun v w H locs hQ hP hD hS => ?_)
  obtain ⟨w', ⟨rfl, rfl⟩, rfl⟩ := hQ
  have hP := vP_perm List.perm_append_comm hP
  have hD := vD_perm List.perm_append_comm hD
  refine lv_icmp_eq (tgt := 1224) hx hb dL_law_706 (by decide) (fun _ => ?_) (fun cc => absurd rfl cc)
  exact W.widen (k := cells + 100) (n := slots + 4400) (by omega) (by omega) (kk A' C' M' H locs hA' hok' hR' hP hD hS)
set_option maxRecDepth 20000 in
set_option maxHeartbeats 4000000 in
theorem lc_rule {p : Program} {e : Env} {s : State} {m : MethodId} {below : List Frame} {meth : Method} {c : Code} (l : Launch) {b L : Nat} {xs : Nat → Int32} {G : GT} {Rl : XCt → MCt → Prop} (C0 : lw_At p s m meth c b L xs) (hK : va_K (gD G) vwCl (gT G) s) (hN : gN s) {Q : State → Prop} {A : XAd} {C : XCt} {D : MAd} {M : MCt} {H : Heap} {locs : List Loc} {i : Int32} {cells slots : Nat} {ls : Array Slot} (hi : 0 ≤ i.toInt ∧ i.toInt + 6 ≤ L ∧ L ≤ 3072) (hP : va_P (gD G) vwCl (xW G A C ++ mW G D M) H) (hD : va_D (nwA s) (xW G A C ++ mW G D M)) (hS : va_S (nwA s) s.heap H locs) (hl : lv_has ls 4 [(3, .int i), (2, .ref D.h), (1, .ref A.h), (0, .ref b)]) (hce : cells + 100 ≤ 600000) (hsl : slots + 4400 ≤ room_1.slots) (hsim : SimL l G Rl A C D M yX8_rule wsX8_rule yX9_rule wsX9_rule [.int (xs (i + 1).toNatClampNeg), .int (xs (i + 2).toNatClampNeg)])
    (kk : ∀ (A' : XAd) (C' : XCt) (M' : MCt) (H1 : Heap) (locs1 : List Loc), A'.h = A.h → xok A' C' → Rl C' M' → va_P (gD G) vwCl (xW G A' C' ++ mW G D M') H1 → va_D (nwA s) (xW G A' C' ++ mW G D M') → va_S (nwA s) s.heap H1 locs1 → W p l e room_1 s m #[Value.ref b] below meth c H1 locs1 (cells + 100) (slots + 4400) Q (F0 m 1224 ls [])) : W p l e room_1 s m #[Value.ref b] below meth c H locs cells slots Q (F0 m 711 ls []) := by
  obtain ⟨hx, hb, hr, hml, hown, hts, hX, hbl, hlocks, -⟩ := C0
  obtain ⟨r, M', hXK, hMK⟩ := hsim
  have hown : s.vm.findClass RL = some m.cls := hown
  have hA : ∀ q : Nat, s.heap.size ≤ q → nwA s q := fun _ h => h
  have hbA : ¬ nwA s b := Nat.not_le.mpr hbl
  refine lv_aload_n hx hb dL_law_711 rfl (lv_at hl 2 rfl) ?_
  refine lv_aload_n hx hb dL_law_712 rfl (lv_at hl 3 rfl) ?_
  refine lv_iload_n hx hb dL_law_713 rfl (lv_at hl 0 rfl) ?_
  refine lv_iconst (v := 1) hx hb dL_law_714 (by decide) ?_
  refine lv_iadd hx hb dL_law_715 ?_
  refine va_sld hx hb hX hbl hbA hS (lw_in hi.1 hi.2.1 hi.2.2 1 (by decide)) dL_law_716 ?_
  refine lv_aload_n hx hb dL_law_717 rfl (lv_at hl 3 rfl) ?_
  refine lv_iload_n hx hb dL_law_718 rfl (lv_at hl 0 rfl) ?_
  refine lv_iconst (v := 2) hx hb dL_law_719 (by decide) ?_
  refine lv_iadd hx hb dL_law_720 ?_
  refine va_sld hx hb hX hbl hbA hS (lw_in hi.1 hi.2.1 hi.2.2 2 (by decide)) dL_law_721 ?_
  refine ke_V (q := (RX8, TX8, 5)) (q0 := 0) (As := [.int (xs (i + 1).toNatClampNeg), .int (xs (i + 2).toNatClampNeg)]) (rest := []) 8 (hXK.frame (mW G D M)) ⟨hx, hb, hml, hown, hts⟩ (fun rm mc ms h1 h2 h3 h4 => cwV 2 hts gT_X8_rule rfl h1 h2 (by decide +kernel) ⟨Nat.le_trans (Nat.add_le_add_right h3 1) (Nat.le_of_ble_eq_true rfl), Nat.le_trans (Nat.add_le_add_left h4 _) (Nat.le_of_ble_eq_true rfl)⟩) hK hN hP hD hS hA rfl rfl rfl hl.1 rfl (lv_room (Nat.le_of_ble_eq_true rfl)) dL_law_722 ⟨by show cells + 50 ≤ 600000; omega, by show slots + 2200 ≤ room_1.slots; omega⟩ (fun v w H locs hQ hP hD hS => ?_)
  obtain ⟨w', ⟨rfl, A', C', hA', hR', hok', rfl⟩, rfl⟩ := hQ
  have hP := vP_perm List.perm_append_comm hP
  have hD := vD_perm List.perm_append_comm hD
  refine lv_aload_n hx hb dL_law_725 rfl (lv_at hl 1 rfl) ?_
  refine lv_aload_n hx hb dL_law_726 rfl (lv_at hl 3 rfl) ?_
  refine lv_iload_n hx hb dL_law_727 rfl (lv_at hl 0 rfl) ?_
  refine lv_iconst (v := 1) hx hb dL_law_728 (by decide) ?_
  refine lv_iadd hx hb dL_law_729 ?_
  refine va_sld hx hb hX hbl hbA hS (lw_in hi.1 hi.2.1 hi.2.2 1 (by decide)) dL_law_730 ?_
  refine lv_aload_n hx hb dL_law_731 rfl (lv_at hl 3 rfl) ?_
  refine lv_iload_n hx hb dL_law_732 rfl (lv_at hl 0 rfl) ?_
  refine lv_iconst (v := 2) hx hb dL_law_733 (by decide) ?_
  refine lv_iadd hx hb dL_law_734 ?_
  refine va_sld hx hb hX hbl hbA hS (lw_in hi.1 hi.2.1 hi.2.2 2 (by decide)) dL_law_735 ?_
  refine ke_V (q := (RX9, TX9, 24)) (q0 := 0) (As := [.int (xs (i + 1).toNatClampNeg), .int (xs (i + 2).toNatClampNeg)]) (rest := [.long r]) 9 (hMK.frame (xW G A' C')) ⟨hx, hb, hml, hown, hts⟩ (fun rm mc ms h1 h2 h3 h4 => cwV 2 hts gT_X9_rule rfl h1 h2 (by decide +kernel) ⟨Nat.le_trans (Nat.add_le_add_right h3 1) (Nat.le_of_ble_eq_true rfl), Nat.le_trans (Nat.add_le_add_left h4 _) (Nat.le_of_ble_eq_true rfl)⟩) hK hN hP hD hS hA rfl rfl rfl hl.1 rfl (lv_room (Nat.le_of_ble_eq_true rfl)) dL_law_736 ⟨by show cells + 50 + 50 ≤ 600000; omega, by show slots + 2200 + 2200 ≤ room_1.slots; omega⟩ (fun v w H locs hQ hP hD hS => ?_)
  obtain ⟨w', ⟨rfl, rfl⟩, rfl⟩ := hQ
  have hP := vP_perm List.perm_append_comm hP
  have hD := vD_perm List.perm_append_comm hD
  refine W.lcmp hx hb dL_law_739 ?_
  refine lv_if_eq (tgt := 1224) hx hb dL_law_740 (by decide) (fun _ => ?_) (fun cc => absurd (by unfold lg_cmp; simp) cc)
  exact W.widen (k := cells + 100) (n := slots + 4400) (by omega) (by omega) (kk A' C' M' H locs hA' hok' hR' hP hD hS)
set_option maxRecDepth 20000 in
set_option maxHeartbeats 4000000 in
theorem lc_stairs {p : Program} {e : Env} {s : State} {m : MethodId} {below : List Frame} {meth : Method} {c : Code} (l : Launch) {b L : Nat} {xs : Nat → Int32} {G : GT} {Rl : XCt → MCt → Prop} (C0 : lw_At p s m meth c b L xs) (hK : va_K (gD G) vwCl (gT G) s) (hN : gN s) {Q : State → Prop} {A : XAd} {C : XCt} {D : MAd} {M : MCt} {H : Heap} {locs : List Loc} {i : Int32} {cells slots : Nat} {ls : Array Slot} (hi : 0 ≤ i.toInt ∧ i.toInt + 6 ≤ L ∧ L ≤ 3072) (hP : va_P (gD G) vwCl (xW G A C ++ mW G D M) H) (hD : va_D (nwA s) (xW G A C ++ mW G D M)) (hS : va_S (nwA s) s.heap H locs) (hl : lv_has ls 4 [(3, .int i), (2, .ref D.h), (1, .ref A.h), (0, .ref b)]) (hce : cells + 100 ≤ 600000) (hsl : slots + 4400 ≤ room_1.slots) (hsim : SimI l G Rl A C D M yX8_stairs wsX8_stairs yX9_stairs wsX9_stairs [.int (xs (i + 1).toNatClampNeg), .int (xs (i + 2).toNatClampNeg)])
    (kk : ∀ (A' : XAd) (C' : XCt) (M' : MCt) (H1 : Heap) (locs1 : List Loc), A'.h = A.h → xok A' C' → Rl C' M' → va_P (gD G) vwCl (xW G A' C' ++ mW G D M') H1 → va_D (nwA s) (xW G A' C' ++ mW G D M') → va_S (nwA s) s.heap H1 locs1 → W p l e room_1 s m #[Value.ref b] below meth c H1 locs1 (cells + 100) (slots + 4400) Q (F0 m 1224 ls [])) : W p l e room_1 s m #[Value.ref b] below meth c H locs cells slots Q (F0 m 745 ls []) := by
  obtain ⟨hx, hb, hr, hml, hown, hts, hX, hbl, hlocks, -⟩ := C0
  obtain ⟨r, M', hXK, hMK⟩ := hsim
  have hown : s.vm.findClass RL = some m.cls := hown
  have hA : ∀ q : Nat, s.heap.size ≤ q → nwA s q := fun _ h => h
  have hbA : ¬ nwA s b := Nat.not_le.mpr hbl
  refine lv_aload_n hx hb dL_law_745 rfl (lv_at hl 2 rfl) ?_
  refine lv_aload_n hx hb dL_law_746 rfl (lv_at hl 3 rfl) ?_
  refine lv_iload_n hx hb dL_law_747 rfl (lv_at hl 0 rfl) ?_
  refine lv_iconst (v := 1) hx hb dL_law_748 (by decide) ?_
  refine lv_iadd hx hb dL_law_749 ?_
  refine va_sld hx hb hX hbl hbA hS (lw_in hi.1 hi.2.1 hi.2.2 1 (by decide)) dL_law_750 ?_
  refine lv_aload_n hx hb dL_law_751 rfl (lv_at hl 3 rfl) ?_
  refine lv_iload_n hx hb dL_law_752 rfl (lv_at hl 0 rfl) ?_
  refine lv_iconst (v := 2) hx hb dL_law_753 (by decide) ?_
  refine lv_iadd hx hb dL_law_754 ?_
  refine va_sld hx hb hX hbl hbA hS (lw_in hi.1 hi.2.1 hi.2.2 2 (by decide)) dL_law_755 ?_
  refine ke_V (q := (RX8, TX8, 5)) (q0 := 0) (As := [.int (xs (i + 1).toNatClampNeg), .int (xs (i + 2).toNatClampNeg)]) (rest := []) 8 (hXK.frame (mW G D M)) ⟨hx, hb, hml, hown, hts⟩ (fun rm mc ms h1 h2 h3 h4 => cwV 2 hts gT_X8_stairs rfl h1 h2 (by decide +kernel) ⟨Nat.le_trans (Nat.add_le_add_right h3 1) (Nat.le_of_ble_eq_true rfl), Nat.le_trans (Nat.add_le_add_left h4 _) (Nat.le_of_ble_eq_true rfl)⟩) hK hN hP hD hS hA rfl rfl rfl hl.1 rfl (lv_room (Nat.le_of_ble_eq_true rfl)) dL_law_756 ⟨by show cells + 50 ≤ 600000; omega, by show slots + 2200 ≤ room_1.slots; omega⟩ (fun v w H locs hQ hP hD hS => ?_)
  obtain ⟨w', ⟨rfl, A', C', hA', hR', hok', rfl⟩, rfl⟩ := hQ
  have hP := vP_perm List.perm_append_comm hP
  have hD := vD_perm List.perm_append_comm hD
  refine lv_aload_n hx hb dL_law_759 rfl (lv_at hl 1 rfl) ?_
  refine lv_aload_n hx hb dL_law_760 rfl (lv_at hl 3 rfl) ?_
  refine lv_iload_n hx hb dL_law_761 rfl (lv_at hl 0 rfl) ?_
  refine lv_iconst (v := 1) hx hb dL_law_762 (by decide) ?_
  refine lv_iadd hx hb dL_law_763 ?_
  refine va_sld hx hb hX hbl hbA hS (lw_in hi.1 hi.2.1 hi.2.2 1 (by decide)) dL_law_764 ?_
  refine lv_aload_n hx hb dL_law_765 rfl (lv_at hl 3 rfl) ?_
  refine lv_iload_n hx hb dL_law_766 rfl (lv_at hl 0 rfl) ?_
  refine lv_iconst (v := 2) hx hb dL_law_767 (by decide) ?_
  refine lv_iadd hx hb dL_law_768 ?_
  refine va_sld hx hb hX hbl hbA hS (lw_in hi.1 hi.2.1 hi.2.2 2 (by decide)) dL_law_769 ?_
  refine ke_V (q := (RX9, TX9, 24)) (q0 := 0) (As := [.int (xs (i + 1).toNatClampNeg), .int (xs (i + 2).toNatClampNeg)]) (rest := [.int r]) 9 (hMK.frame (xW G A' C')) ⟨hx, hb, hml, hown, hts⟩ (fun rm mc ms h1 h2 h3 h4 => cwV 2 hts gT_X9_stairs rfl h1 h2 (by decide +kernel) ⟨Nat.le_trans (Nat.add_le_add_right h3 1) (Nat.le_of_ble_eq_true rfl), Nat.le_trans (Nat.add_le_add_left h4 _) (Nat.le_of_ble_eq_true rfl)⟩) hK hN hP hD hS hA rfl rfl rfl hl.1 rfl (lv_room (Nat.le_of_ble_eq_true rfl)) dL_law_770 ⟨by show cells + 50 + 50 ≤ 600000; omega, by show slots + 2200 + 2200 ≤ room_1.slots; omega⟩ (fun v w H locs hQ hP hD hS => ?_)
  obtain ⟨w', ⟨rfl, rfl⟩, rfl⟩ := hQ
  have hP := vP_perm List.perm_append_comm hP
  have hD := vD_perm List.perm_append_comm hD
  refine lv_icmp_eq (tgt := 1224) hx hb dL_law_773 (by decide) (fun _ => ?_) (fun cc => absurd rfl cc)
  exact W.widen (k := cells + 100) (n := slots + 4400) (by omega) (by omega) (kk A' C' M' H locs hA' hok' hR' hP hD hS)
set_option maxRecDepth 20000 in
set_option maxHeartbeats 4000000 in
theorem lc_point {p : Program} {e : Env} {s : State} {m : MethodId} {below : List Frame} {meth : Method} {c : Code} (l : Launch) {b L : Nat} {xs : Nat → Int32} {G : GT} {Rl : XCt → MCt → Prop} (C0 : lw_At p s m meth c b L xs) (hK : va_K (gD G) vwCl (gT G) s) (hN : gN s) {Q : State → Prop} {A : XAd} {C : XCt} {D : MAd} {M : MCt} {H : Heap} {locs : List Loc} {i : Int32} {cells slots : Nat} {ls : Array Slot} (hi : 0 ≤ i.toInt ∧ i.toInt + 6 ≤ L ∧ L ≤ 3072) (hP : va_P (gD G) vwCl (xW G A C ++ mW G D M) H) (hD : va_D (nwA s) (xW G A C ++ mW G D M)) (hS : va_S (nwA s) s.heap H locs) (hl : lv_has ls 4 [(3, .int i), (2, .ref D.h), (1, .ref A.h), (0, .ref b)]) (hce : cells + 100 ≤ 600000) (hsl : slots + 4400 ≤ room_1.slots) (hsim : SimI l G Rl A C D M yX8_point wsX8_point yX9_point_ wsX9_point_ [.int (xs (i + 1).toNatClampNeg), .int (xs (i + 2).toNatClampNeg), .int (xs (i + 3).toNatClampNeg), .int (xs (i + 4).toNatClampNeg)])
    (kk : ∀ (A' : XAd) (C' : XCt) (M' : MCt) (H1 : Heap) (locs1 : List Loc), A'.h = A.h → xok A' C' → Rl C' M' → va_P (gD G) vwCl (xW G A' C' ++ mW G D M') H1 → va_D (nwA s) (xW G A' C' ++ mW G D M') → va_S (nwA s) s.heap H1 locs1 → W p l e room_1 s m #[Value.ref b] below meth c H1 locs1 (cells + 100) (slots + 4400) Q (F0 m 1224 ls [])) : W p l e room_1 s m #[Value.ref b] below meth c H locs cells slots Q (F0 m 778 ls []) := by
  obtain ⟨hx, hb, hr, hml, hown, hts, hX, hbl, hlocks, -⟩ := C0
  obtain ⟨r, M', hXK, hMK⟩ := hsim
  have hown : s.vm.findClass RL = some m.cls := hown
  have hA : ∀ q : Nat, s.heap.size ≤ q → nwA s q := fun _ h => h
  have hbA : ¬ nwA s b := Nat.not_le.mpr hbl
  refine lv_aload_n hx hb dL_law_778 rfl (lv_at hl 2 rfl) ?_
  refine lv_aload_n hx hb dL_law_779 rfl (lv_at hl 3 rfl) ?_
  refine lv_iload_n hx hb dL_law_780 rfl (lv_at hl 0 rfl) ?_
  refine lv_iconst (v := 1) hx hb dL_law_781 (by decide) ?_
  refine lv_iadd hx hb dL_law_782 ?_
  refine va_sld hx hb hX hbl hbA hS (lw_in hi.1 hi.2.1 hi.2.2 1 (by decide)) dL_law_783 ?_
  refine lv_aload_n hx hb dL_law_784 rfl (lv_at hl 3 rfl) ?_
  refine lv_iload_n hx hb dL_law_785 rfl (lv_at hl 0 rfl) ?_
  refine lv_iconst (v := 2) hx hb dL_law_786 (by decide) ?_
  refine lv_iadd hx hb dL_law_787 ?_
  refine va_sld hx hb hX hbl hbA hS (lw_in hi.1 hi.2.1 hi.2.2 2 (by decide)) dL_law_788 ?_
  refine lv_aload_n hx hb dL_law_789 rfl (lv_at hl 3 rfl) ?_
  refine lv_iload_n hx hb dL_law_790 rfl (lv_at hl 0 rfl) ?_
  refine lv_iconst (v := 3) hx hb dL_law_791 (by decide) ?_
  refine lv_iadd hx hb dL_law_792 ?_
  refine va_sld hx hb hX hbl hbA hS (lw_in hi.1 hi.2.1 hi.2.2 3 (by decide)) dL_law_793 ?_
  refine lv_aload_n hx hb dL_law_794 rfl (lv_at hl 3 rfl) ?_
  refine lv_iload_n hx hb dL_law_795 rfl (lv_at hl 0 rfl) ?_
  refine lv_iconst (v := 4) hx hb dL_law_796 (by decide) ?_
  refine lv_iadd hx hb dL_law_797 ?_
  refine va_sld hx hb hX hbl hbA hS (lw_in hi.1 hi.2.1 hi.2.2 4 (by decide)) dL_law_798 ?_
  refine ke_V (q := (RX8, TX8, 5)) (q0 := 0) (As := [.int (xs (i + 1).toNatClampNeg), .int (xs (i + 2).toNatClampNeg), .int (xs (i + 3).toNatClampNeg), .int (xs (i + 4).toNatClampNeg)]) (rest := []) 8 (hXK.frame (mW G D M)) ⟨hx, hb, hml, hown, hts⟩ (fun rm mc ms h1 h2 h3 h4 => cwV 4 hts gT_X8_point rfl h1 h2 (by decide +kernel) ⟨Nat.le_trans (Nat.add_le_add_right h3 1) (Nat.le_of_ble_eq_true rfl), Nat.le_trans (Nat.add_le_add_left h4 _) (Nat.le_of_ble_eq_true rfl)⟩) hK hN hP hD hS hA rfl rfl rfl hl.1 rfl (lv_room (Nat.le_of_ble_eq_true rfl)) dL_law_799 ⟨by show cells + 50 ≤ 600000; omega, by show slots + 2200 ≤ room_1.slots; omega⟩ (fun v w H locs hQ hP hD hS => ?_)
  obtain ⟨w', ⟨rfl, A', C', hA', hR', hok', rfl⟩, rfl⟩ := hQ
  have hP := vP_perm List.perm_append_comm hP
  have hD := vD_perm List.perm_append_comm hD
  refine lv_aload_n hx hb dL_law_802 rfl (lv_at hl 1 rfl) ?_
  refine lv_aload_n hx hb dL_law_803 rfl (lv_at hl 3 rfl) ?_
  refine lv_iload_n hx hb dL_law_804 rfl (lv_at hl 0 rfl) ?_
  refine lv_iconst (v := 1) hx hb dL_law_805 (by decide) ?_
  refine lv_iadd hx hb dL_law_806 ?_
  refine va_sld hx hb hX hbl hbA hS (lw_in hi.1 hi.2.1 hi.2.2 1 (by decide)) dL_law_807 ?_
  refine lv_aload_n hx hb dL_law_808 rfl (lv_at hl 3 rfl) ?_
  refine lv_iload_n hx hb dL_law_809 rfl (lv_at hl 0 rfl) ?_
  refine lv_iconst (v := 2) hx hb dL_law_810 (by decide) ?_
  refine lv_iadd hx hb dL_law_811 ?_
  refine va_sld hx hb hX hbl hbA hS (lw_in hi.1 hi.2.1 hi.2.2 2 (by decide)) dL_law_812 ?_
  refine lv_aload_n hx hb dL_law_813 rfl (lv_at hl 3 rfl) ?_
  refine lv_iload_n hx hb dL_law_814 rfl (lv_at hl 0 rfl) ?_
  refine lv_iconst (v := 3) hx hb dL_law_815 (by decide) ?_
  refine lv_iadd hx hb dL_law_816 ?_
  refine va_sld hx hb hX hbl hbA hS (lw_in hi.1 hi.2.1 hi.2.2 3 (by decide)) dL_law_817 ?_
  refine lv_aload_n hx hb dL_law_818 rfl (lv_at hl 3 rfl) ?_
  refine lv_iload_n hx hb dL_law_819 rfl (lv_at hl 0 rfl) ?_
  refine lv_iconst (v := 4) hx hb dL_law_820 (by decide) ?_
  refine lv_iadd hx hb dL_law_821 ?_
  refine va_sld hx hb hX hbl hbA hS (lw_in hi.1 hi.2.1 hi.2.2 4 (by decide)) dL_law_822 ?_
  refine ke_V (q := (RX9, TX9, 24)) (q0 := 0) (As := [.int (xs (i + 1).toNatClampNeg), .int (xs (i + 2).toNatClampNeg), .int (xs (i + 3).toNatClampNeg), .int (xs (i + 4).toNatClampNeg)]) (rest := [.int r]) 9 (hMK.frame (xW G A' C')) ⟨hx, hb, hml, hown, hts⟩ (fun rm mc ms h1 h2 h3 h4 => cwV 4 hts gT_X9_point_ rfl h1 h2 (by decide +kernel) ⟨Nat.le_trans (Nat.add_le_add_right h3 1) (Nat.le_of_ble_eq_true rfl), Nat.le_trans (Nat.add_le_add_left h4 _) (Nat.le_of_ble_eq_true rfl)⟩) hK hN hP hD hS hA rfl rfl rfl hl.1 rfl (lv_room (Nat.le_of_ble_eq_true rfl)) dL_law_823 ⟨by show cells + 50 + 50 ≤ 600000; omega, by show slots + 2200 + 2200 ≤ room_1.slots; omega⟩ (fun v w H locs hQ hP hD hS => ?_)
  obtain ⟨w', ⟨rfl, rfl⟩, rfl⟩ := hQ
  have hP := vP_perm List.perm_append_comm hP
  have hD := vD_perm List.perm_append_comm hD
  refine lv_icmp_eq (tgt := 1224) hx hb dL_law_826 (by decide) (fun _ => ?_) (fun cc => absurd rfl cc)
  exact W.widen (k := cells + 100) (n := slots + 4400) (by omega) (by omega) (kk A' C' M' H locs hA' hok' hR' hP hD hS)
set_option maxRecDepth 20000 in
set_option maxHeartbeats 4000000 in
theorem lc_rank {p : Program} {e : Env} {s : State} {m : MethodId} {below : List Frame} {meth : Method} {c : Code} (l : Launch) {b L : Nat} {xs : Nat → Int32} {G : GT} {Rl : XCt → MCt → Prop} (C0 : lw_At p s m meth c b L xs) (hK : va_K (gD G) vwCl (gT G) s) (hN : gN s) {Q : State → Prop} {A : XAd} {C : XCt} {D : MAd} {M : MCt} {H : Heap} {locs : List Loc} {i : Int32} {cells slots : Nat} {ls : Array Slot} (hi : 0 ≤ i.toInt ∧ i.toInt + 6 ≤ L ∧ L ≤ 3072) (hP : va_P (gD G) vwCl (xW G A C ++ mW G D M) H) (hD : va_D (nwA s) (xW G A C ++ mW G D M)) (hS : va_S (nwA s) s.heap H locs) (hl : lv_has ls 4 [(3, .int i), (2, .ref D.h), (1, .ref A.h), (0, .ref b)]) (hce : cells + 100 ≤ 600000) (hsl : slots + 4400 ≤ room_1.slots) (hsim : SimI l G Rl A C D M yX8_rank wsX8_rank yX9_rank wsX9_rank [.int (xs (i + 1).toNatClampNeg), .int (xs (i + 2).toNatClampNeg), .int (xs (i + 3).toNatClampNeg), .int (xs (i + 4).toNatClampNeg), .int (xs (i + 5).toNatClampNeg)])
    (kk : ∀ (A' : XAd) (C' : XCt) (M' : MCt) (H1 : Heap) (locs1 : List Loc), A'.h = A.h → xok A' C' → Rl C' M' → va_P (gD G) vwCl (xW G A' C' ++ mW G D M') H1 → va_D (nwA s) (xW G A' C' ++ mW G D M') → va_S (nwA s) s.heap H1 locs1 → W p l e room_1 s m #[Value.ref b] below meth c H1 locs1 (cells + 100) (slots + 4400) Q (F0 m 1224 ls [])) : W p l e room_1 s m #[Value.ref b] below meth c H locs cells slots Q (F0 m 831 ls []) := by
  obtain ⟨hx, hb, hr, hml, hown, hts, hX, hbl, hlocks, -⟩ := C0
  obtain ⟨r, M', hXK, hMK⟩ := hsim
  have hown : s.vm.findClass RL = some m.cls := hown
  have hA : ∀ q : Nat, s.heap.size ≤ q → nwA s q := fun _ h => h
  have hbA : ¬ nwA s b := Nat.not_le.mpr hbl
  refine lv_aload_n hx hb dL_law_831 rfl (lv_at hl 2 rfl) ?_
  refine lv_aload_n hx hb dL_law_832 rfl (lv_at hl 3 rfl) ?_
  refine lv_iload_n hx hb dL_law_833 rfl (lv_at hl 0 rfl) ?_
  refine lv_iconst (v := 1) hx hb dL_law_834 (by decide) ?_
  refine lv_iadd hx hb dL_law_835 ?_
  refine va_sld hx hb hX hbl hbA hS (lw_in hi.1 hi.2.1 hi.2.2 1 (by decide)) dL_law_836 ?_
  refine lv_aload_n hx hb dL_law_837 rfl (lv_at hl 3 rfl) ?_
  refine lv_iload_n hx hb dL_law_838 rfl (lv_at hl 0 rfl) ?_
  refine lv_iconst (v := 2) hx hb dL_law_839 (by decide) ?_
  refine lv_iadd hx hb dL_law_840 ?_
  refine va_sld hx hb hX hbl hbA hS (lw_in hi.1 hi.2.1 hi.2.2 2 (by decide)) dL_law_841 ?_
  refine lv_aload_n hx hb dL_law_842 rfl (lv_at hl 3 rfl) ?_
  refine lv_iload_n hx hb dL_law_843 rfl (lv_at hl 0 rfl) ?_
  refine lv_iconst (v := 3) hx hb dL_law_844 (by decide) ?_
  refine lv_iadd hx hb dL_law_845 ?_
  refine va_sld hx hb hX hbl hbA hS (lw_in hi.1 hi.2.1 hi.2.2 3 (by decide)) dL_law_846 ?_
  refine lv_aload_n hx hb dL_law_847 rfl (lv_at hl 3 rfl) ?_
  refine lv_iload_n hx hb dL_law_848 rfl (lv_at hl 0 rfl) ?_
  refine lv_iconst (v := 4) hx hb dL_law_849 (by decide) ?_
  refine lv_iadd hx hb dL_law_850 ?_
  refine va_sld hx hb hX hbl hbA hS (lw_in hi.1 hi.2.1 hi.2.2 4 (by decide)) dL_law_851 ?_
  refine lv_aload_n hx hb dL_law_852 rfl (lv_at hl 3 rfl) ?_
  refine lv_iload_n hx hb dL_law_853 rfl (lv_at hl 0 rfl) ?_
  refine lv_iconst (v := 5) hx hb dL_law_854 (by decide) ?_
  refine lv_iadd hx hb dL_law_855 ?_
  refine va_sld hx hb hX hbl hbA hS (lw_in hi.1 hi.2.1 hi.2.2 5 (by decide)) dL_law_856 ?_
  refine ke_V (q := (RX8, TX8, 5)) (q0 := 0) (As := [.int (xs (i + 1).toNatClampNeg), .int (xs (i + 2).toNatClampNeg), .int (xs (i + 3).toNatClampNeg), .int (xs (i + 4).toNatClampNeg), .int (xs (i + 5).toNatClampNeg)]) (rest := []) 8 (hXK.frame (mW G D M)) ⟨hx, hb, hml, hown, hts⟩ (fun rm mc ms h1 h2 h3 h4 => cwV 5 hts gT_X8_rank rfl h1 h2 (by decide +kernel) ⟨Nat.le_trans (Nat.add_le_add_right h3 1) (Nat.le_of_ble_eq_true rfl), Nat.le_trans (Nat.add_le_add_left h4 _) (Nat.le_of_ble_eq_true rfl)⟩) hK hN hP hD hS hA rfl rfl rfl hl.1 rfl (lv_room (Nat.le_of_ble_eq_true rfl)) dL_law_857 ⟨by show cells + 50 ≤ 600000; omega, by show slots + 2200 ≤ room_1.slots; omega⟩ (fun v w H locs hQ hP hD hS => ?_)
  obtain ⟨w', ⟨rfl, A', C', hA', hR', hok', rfl⟩, rfl⟩ := hQ
  have hP := vP_perm List.perm_append_comm hP
  have hD := vD_perm List.perm_append_comm hD
  refine lv_aload_n hx hb dL_law_860 rfl (lv_at hl 1 rfl) ?_
  refine lv_aload_n hx hb dL_law_861 rfl (lv_at hl 3 rfl) ?_
  refine lv_iload_n hx hb dL_law_862 rfl (lv_at hl 0 rfl) ?_
  refine lv_iconst (v := 1) hx hb dL_law_863 (by decide) ?_
  refine lv_iadd hx hb dL_law_864 ?_
  refine va_sld hx hb hX hbl hbA hS (lw_in hi.1 hi.2.1 hi.2.2 1 (by decide)) dL_law_865 ?_
  refine lv_aload_n hx hb dL_law_866 rfl (lv_at hl 3 rfl) ?_
  refine lv_iload_n hx hb dL_law_867 rfl (lv_at hl 0 rfl) ?_
  refine lv_iconst (v := 2) hx hb dL_law_868 (by decide) ?_
  refine lv_iadd hx hb dL_law_869 ?_
  refine va_sld hx hb hX hbl hbA hS (lw_in hi.1 hi.2.1 hi.2.2 2 (by decide)) dL_law_870 ?_
  refine lv_aload_n hx hb dL_law_871 rfl (lv_at hl 3 rfl) ?_
  refine lv_iload_n hx hb dL_law_872 rfl (lv_at hl 0 rfl) ?_
  refine lv_iconst (v := 3) hx hb dL_law_873 (by decide) ?_
  refine lv_iadd hx hb dL_law_874 ?_
  refine va_sld hx hb hX hbl hbA hS (lw_in hi.1 hi.2.1 hi.2.2 3 (by decide)) dL_law_875 ?_
  refine lv_aload_n hx hb dL_law_876 rfl (lv_at hl 3 rfl) ?_
  refine lv_iload_n hx hb dL_law_877 rfl (lv_at hl 0 rfl) ?_
  refine lv_iconst (v := 4) hx hb dL_law_878 (by decide) ?_
  refine lv_iadd hx hb dL_law_879 ?_
  refine va_sld hx hb hX hbl hbA hS (lw_in hi.1 hi.2.1 hi.2.2 4 (by decide)) dL_law_880 ?_
  refine lv_aload_n hx hb dL_law_881 rfl (lv_at hl 3 rfl) ?_
  refine lv_iload_n hx hb dL_law_882 rfl (lv_at hl 0 rfl) ?_
  refine lv_iconst (v := 5) hx hb dL_law_883 (by decide) ?_
  refine lv_iadd hx hb dL_law_884 ?_
  refine va_sld hx hb hX hbl hbA hS (lw_in hi.1 hi.2.1 hi.2.2 5 (by decide)) dL_law_885 ?_
  refine ke_V (q := (RX9, TX9, 24)) (q0 := 0) (As := [.int (xs (i + 1).toNatClampNeg), .int (xs (i + 2).toNatClampNeg), .int (xs (i + 3).toNatClampNeg), .int (xs (i + 4).toNatClampNeg), .int (xs (i + 5).toNatClampNeg)]) (rest := [.int r]) 9 (hMK.frame (xW G A' C')) ⟨hx, hb, hml, hown, hts⟩ (fun rm mc ms h1 h2 h3 h4 => cwV 5 hts gT_X9_rank rfl h1 h2 (by decide +kernel) ⟨Nat.le_trans (Nat.add_le_add_right h3 1) (Nat.le_of_ble_eq_true rfl), Nat.le_trans (Nat.add_le_add_left h4 _) (Nat.le_of_ble_eq_true rfl)⟩) hK hN hP hD hS hA rfl rfl rfl hl.1 rfl (lv_room (Nat.le_of_ble_eq_true rfl)) dL_law_886 ⟨by show cells + 50 + 50 ≤ 600000; omega, by show slots + 2200 + 2200 ≤ room_1.slots; omega⟩ (fun v w H locs hQ hP hD hS => ?_)
  obtain ⟨w', ⟨rfl, rfl⟩, rfl⟩ := hQ
  have hP := vP_perm List.perm_append_comm hP
  have hD := vD_perm List.perm_append_comm hD
  refine lv_icmp_eq (tgt := 1224) hx hb dL_law_889 (by decide) (fun _ => ?_) (fun cc => absurd rfl cc)
  exact W.widen (k := cells + 100) (n := slots + 4400) (by omega) (by omega) (kk A' C' M' H locs hA' hok' hR' hP hD hS)
set_option maxRecDepth 20000 in
set_option maxHeartbeats 4000000 in
theorem lc_move {p : Program} {e : Env} {s : State} {m : MethodId} {below : List Frame} {meth : Method} {c : Code} (l : Launch) {b L : Nat} {xs : Nat → Int32} {G : GT} {Rl : XCt → MCt → Prop} (C0 : lw_At p s m meth c b L xs) (hK : va_K (gD G) vwCl (gT G) s) (hN : gN s) {Q : State → Prop} {A : XAd} {C : XCt} {D : MAd} {M : MCt} {H : Heap} {locs : List Loc} {i : Int32} {cells slots : Nat} {ls : Array Slot} (hi : 0 ≤ i.toInt ∧ i.toInt + 6 ≤ L ∧ L ≤ 3072) (hP : va_P (gD G) vwCl (xW G A C ++ mW G D M) H) (hD : va_D (nwA s) (xW G A C ++ mW G D M)) (hS : va_S (nwA s) s.heap H locs) (hl : lv_has ls 4 [(3, .int i), (2, .ref D.h), (1, .ref A.h), (0, .ref b)]) (hce : cells + 100 ≤ 600000) (hsl : slots + 4400 ≤ room_1.slots) (hsim : SimI l G Rl A C D M yX8_move wsX8_move yX9_move wsX9_move [.int (xs (i + 1).toNatClampNeg), .int (xs (i + 2).toNatClampNeg), .int (xs (i + 3).toNatClampNeg), .int (xs (i + 4).toNatClampNeg)])
    (kk : ∀ (A' : XAd) (C' : XCt) (M' : MCt) (H1 : Heap) (locs1 : List Loc), A'.h = A.h → xok A' C' → Rl C' M' → va_P (gD G) vwCl (xW G A' C' ++ mW G D M') H1 → va_D (nwA s) (xW G A' C' ++ mW G D M') → va_S (nwA s) s.heap H1 locs1 → W p l e room_1 s m #[Value.ref b] below meth c H1 locs1 (cells + 100) (slots + 4400) Q (F0 m 1224 ls [])) : W p l e room_1 s m #[Value.ref b] below meth c H locs cells slots Q (F0 m 894 ls []) := by
  obtain ⟨hx, hb, hr, hml, hown, hts, hX, hbl, hlocks, -⟩ := C0
  obtain ⟨r, M', hXK, hMK⟩ := hsim
  have hown : s.vm.findClass RL = some m.cls := hown
  have hA : ∀ q : Nat, s.heap.size ≤ q → nwA s q := fun _ h => h
  have hbA : ¬ nwA s b := Nat.not_le.mpr hbl
  refine lv_aload_n hx hb dL_law_894 rfl (lv_at hl 2 rfl) ?_
  refine lv_aload_n hx hb dL_law_895 rfl (lv_at hl 3 rfl) ?_
  refine lv_iload_n hx hb dL_law_896 rfl (lv_at hl 0 rfl) ?_
  refine lv_iconst (v := 1) hx hb dL_law_897 (by decide) ?_
  refine lv_iadd hx hb dL_law_898 ?_
  refine va_sld hx hb hX hbl hbA hS (lw_in hi.1 hi.2.1 hi.2.2 1 (by decide)) dL_law_899 ?_
  refine lv_aload_n hx hb dL_law_900 rfl (lv_at hl 3 rfl) ?_
  refine lv_iload_n hx hb dL_law_901 rfl (lv_at hl 0 rfl) ?_
  refine lv_iconst (v := 2) hx hb dL_law_902 (by decide) ?_
  refine lv_iadd hx hb dL_law_903 ?_
  refine va_sld hx hb hX hbl hbA hS (lw_in hi.1 hi.2.1 hi.2.2 2 (by decide)) dL_law_904 ?_
  refine lv_aload_n hx hb dL_law_905 rfl (lv_at hl 3 rfl) ?_
  refine lv_iload_n hx hb dL_law_906 rfl (lv_at hl 0 rfl) ?_
  refine lv_iconst (v := 3) hx hb dL_law_907 (by decide) ?_
  refine lv_iadd hx hb dL_law_908 ?_
  refine va_sld hx hb hX hbl hbA hS (lw_in hi.1 hi.2.1 hi.2.2 3 (by decide)) dL_law_909 ?_
  refine lv_aload_n hx hb dL_law_910 rfl (lv_at hl 3 rfl) ?_
  refine lv_iload_n hx hb dL_law_911 rfl (lv_at hl 0 rfl) ?_
  refine lv_iconst (v := 4) hx hb dL_law_912 (by decide) ?_
  refine lv_iadd hx hb dL_law_913 ?_
  refine va_sld hx hb hX hbl hbA hS (lw_in hi.1 hi.2.1 hi.2.2 4 (by decide)) dL_law_914 ?_
  refine ke_V (q := (RX8, TX8, 5)) (q0 := 0) (As := [.int (xs (i + 1).toNatClampNeg), .int (xs (i + 2).toNatClampNeg), .int (xs (i + 3).toNatClampNeg), .int (xs (i + 4).toNatClampNeg)]) (rest := []) 8 (hXK.frame (mW G D M)) ⟨hx, hb, hml, hown, hts⟩ (fun rm mc ms h1 h2 h3 h4 => cwV 4 hts gT_X8_move rfl h1 h2 (by decide +kernel) ⟨Nat.le_trans (Nat.add_le_add_right h3 1) (Nat.le_of_ble_eq_true rfl), Nat.le_trans (Nat.add_le_add_left h4 _) (Nat.le_of_ble_eq_true rfl)⟩) hK hN hP hD hS hA rfl rfl rfl hl.1 rfl (lv_room (Nat.le_of_ble_eq_true rfl)) dL_law_915 ⟨by show cells + 50 ≤ 600000; omega, by show slots + 2200 ≤ room_1.slots; omega⟩ (fun v w H locs hQ hP hD hS => ?_)
  obtain ⟨w', ⟨rfl, A', C', hA', hR', hok', rfl⟩, rfl⟩ := hQ
  have hP := vP_perm List.perm_append_comm hP
  have hD := vD_perm List.perm_append_comm hD
  refine lv_aload_n hx hb dL_law_918 rfl (lv_at hl 1 rfl) ?_
  refine lv_aload_n hx hb dL_law_919 rfl (lv_at hl 3 rfl) ?_
  refine lv_iload_n hx hb dL_law_920 rfl (lv_at hl 0 rfl) ?_
  refine lv_iconst (v := 1) hx hb dL_law_921 (by decide) ?_
  refine lv_iadd hx hb dL_law_922 ?_
  refine va_sld hx hb hX hbl hbA hS (lw_in hi.1 hi.2.1 hi.2.2 1 (by decide)) dL_law_923 ?_
  refine lv_aload_n hx hb dL_law_924 rfl (lv_at hl 3 rfl) ?_
  refine lv_iload_n hx hb dL_law_925 rfl (lv_at hl 0 rfl) ?_
  refine lv_iconst (v := 2) hx hb dL_law_926 (by decide) ?_
  refine lv_iadd hx hb dL_law_927 ?_
  refine va_sld hx hb hX hbl hbA hS (lw_in hi.1 hi.2.1 hi.2.2 2 (by decide)) dL_law_928 ?_
  refine lv_aload_n hx hb dL_law_929 rfl (lv_at hl 3 rfl) ?_
  refine lv_iload_n hx hb dL_law_930 rfl (lv_at hl 0 rfl) ?_
  refine lv_iconst (v := 3) hx hb dL_law_931 (by decide) ?_
  refine lv_iadd hx hb dL_law_932 ?_
  refine va_sld hx hb hX hbl hbA hS (lw_in hi.1 hi.2.1 hi.2.2 3 (by decide)) dL_law_933 ?_
  refine lv_aload_n hx hb dL_law_934 rfl (lv_at hl 3 rfl) ?_
  refine lv_iload_n hx hb dL_law_935 rfl (lv_at hl 0 rfl) ?_
  refine lv_iconst (v := 4) hx hb dL_law_936 (by decide) ?_
  refine lv_iadd hx hb dL_law_937 ?_
  refine va_sld hx hb hX hbl hbA hS (lw_in hi.1 hi.2.1 hi.2.2 4 (by decide)) dL_law_938 ?_
  refine ke_V (q := (RX9, TX9, 24)) (q0 := 0) (As := [.int (xs (i + 1).toNatClampNeg), .int (xs (i + 2).toNatClampNeg), .int (xs (i + 3).toNatClampNeg), .int (xs (i + 4).toNatClampNeg)]) (rest := [.int r]) 9 (hMK.frame (xW G A' C')) ⟨hx, hb, hml, hown, hts⟩ (fun rm mc ms h1 h2 h3 h4 => cwV 4 hts gT_X9_move rfl h1 h2 (by decide +kernel) ⟨Nat.le_trans (Nat.add_le_add_right h3 1) (Nat.le_of_ble_eq_true rfl), Nat.le_trans (Nat.add_le_add_left h4 _) (Nat.le_of_ble_eq_true rfl)⟩) hK hN hP hD hS hA rfl rfl rfl hl.1 rfl (lv_room (Nat.le_of_ble_eq_true rfl)) dL_law_939 ⟨by show cells + 50 + 50 ≤ 600000; omega, by show slots + 2200 + 2200 ≤ room_1.slots; omega⟩ (fun v w H locs hQ hP hD hS => ?_)
  obtain ⟨w', ⟨rfl, rfl⟩, rfl⟩ := hQ
  have hP := vP_perm List.perm_append_comm hP
  have hD := vD_perm List.perm_append_comm hD
  refine lv_icmp_eq (tgt := 1224) hx hb dL_law_942 (by decide) (fun _ => ?_) (fun cc => absurd rfl cc)
  exact W.widen (k := cells + 100) (n := slots + 4400) (by omega) (by omega) (kk A' C' M' H locs hA' hok' hR' hP hD hS)
set_option maxRecDepth 20000 in
set_option maxHeartbeats 4000000 in
theorem lc_turn {p : Program} {e : Env} {s : State} {m : MethodId} {below : List Frame} {meth : Method} {c : Code} (l : Launch) {b L : Nat} {xs : Nat → Int32} {G : GT} {Rl : XCt → MCt → Prop} (C0 : lw_At p s m meth c b L xs) (hK : va_K (gD G) vwCl (gT G) s) (hN : gN s) {Q : State → Prop} {A : XAd} {C : XCt} {D : MAd} {M : MCt} {H : Heap} {locs : List Loc} {i : Int32} {cells slots : Nat} {ls : Array Slot} (hi : 0 ≤ i.toInt ∧ i.toInt + 6 ≤ L ∧ L ≤ 3072) (hP : va_P (gD G) vwCl (xW G A C ++ mW G D M) H) (hD : va_D (nwA s) (xW G A C ++ mW G D M)) (hS : va_S (nwA s) s.heap H locs) (hl : lv_has ls 4 [(3, .int i), (2, .ref D.h), (1, .ref A.h), (0, .ref b)]) (hce : cells + 100 ≤ 600000) (hsl : slots + 4400 ≤ room_1.slots) (hsim : SimI l G Rl A C D M yX8_turn wsX8_turn yX9_turn wsX9_turn [.int (xs (i + 1).toNatClampNeg), .int (xs (i + 2).toNatClampNeg)])
    (kk : ∀ (A' : XAd) (C' : XCt) (M' : MCt) (H1 : Heap) (locs1 : List Loc), A'.h = A.h → xok A' C' → Rl C' M' → va_P (gD G) vwCl (xW G A' C' ++ mW G D M') H1 → va_D (nwA s) (xW G A' C' ++ mW G D M') → va_S (nwA s) s.heap H1 locs1 → W p l e room_1 s m #[Value.ref b] below meth c H1 locs1 (cells + 100) (slots + 4400) Q (F0 m 1224 ls [])) : W p l e room_1 s m #[Value.ref b] below meth c H locs cells slots Q (F0 m 947 ls []) := by
  obtain ⟨hx, hb, hr, hml, hown, hts, hX, hbl, hlocks, -⟩ := C0
  obtain ⟨r, M', hXK, hMK⟩ := hsim
  have hown : s.vm.findClass RL = some m.cls := hown
  have hA : ∀ q : Nat, s.heap.size ≤ q → nwA s q := fun _ h => h
  have hbA : ¬ nwA s b := Nat.not_le.mpr hbl
  refine lv_aload_n hx hb dL_law_947 rfl (lv_at hl 2 rfl) ?_
  refine lv_aload_n hx hb dL_law_948 rfl (lv_at hl 3 rfl) ?_
  refine lv_iload_n hx hb dL_law_949 rfl (lv_at hl 0 rfl) ?_
  refine lv_iconst (v := 1) hx hb dL_law_950 (by decide) ?_
  refine lv_iadd hx hb dL_law_951 ?_
  refine va_sld hx hb hX hbl hbA hS (lw_in hi.1 hi.2.1 hi.2.2 1 (by decide)) dL_law_952 ?_
  refine lv_aload_n hx hb dL_law_953 rfl (lv_at hl 3 rfl) ?_
  refine lv_iload_n hx hb dL_law_954 rfl (lv_at hl 0 rfl) ?_
  refine lv_iconst (v := 2) hx hb dL_law_955 (by decide) ?_
  refine lv_iadd hx hb dL_law_956 ?_
  refine va_sld hx hb hX hbl hbA hS (lw_in hi.1 hi.2.1 hi.2.2 2 (by decide)) dL_law_957 ?_
  refine ke_V (q := (RX8, TX8, 5)) (q0 := 0) (As := [.int (xs (i + 1).toNatClampNeg), .int (xs (i + 2).toNatClampNeg)]) (rest := []) 8 (hXK.frame (mW G D M)) ⟨hx, hb, hml, hown, hts⟩ (fun rm mc ms h1 h2 h3 h4 => cwV 2 hts gT_X8_turn rfl h1 h2 (by decide +kernel) ⟨Nat.le_trans (Nat.add_le_add_right h3 1) (Nat.le_of_ble_eq_true rfl), Nat.le_trans (Nat.add_le_add_left h4 _) (Nat.le_of_ble_eq_true rfl)⟩) hK hN hP hD hS hA rfl rfl rfl hl.1 rfl (lv_room (Nat.le_of_ble_eq_true rfl)) dL_law_958 ⟨by show cells + 50 ≤ 600000; omega, by show slots + 2200 ≤ room_1.slots; omega⟩ (fun v w H locs hQ hP hD hS => ?_)
  obtain ⟨w', ⟨rfl, A', C', hA', hR', hok', rfl⟩, rfl⟩ := hQ
  have hP := vP_perm List.perm_append_comm hP
  have hD := vD_perm List.perm_append_comm hD
  refine lv_aload_n hx hb dL_law_961 rfl (lv_at hl 1 rfl) ?_
  refine lv_aload_n hx hb dL_law_962 rfl (lv_at hl 3 rfl) ?_
  refine lv_iload_n hx hb dL_law_963 rfl (lv_at hl 0 rfl) ?_
  refine lv_iconst (v := 1) hx hb dL_law_964 (by decide) ?_
  refine lv_iadd hx hb dL_law_965 ?_
  refine va_sld hx hb hX hbl hbA hS (lw_in hi.1 hi.2.1 hi.2.2 1 (by decide)) dL_law_966 ?_
  refine lv_aload_n hx hb dL_law_967 rfl (lv_at hl 3 rfl) ?_
  refine lv_iload_n hx hb dL_law_968 rfl (lv_at hl 0 rfl) ?_
  refine lv_iconst (v := 2) hx hb dL_law_969 (by decide) ?_
  refine lv_iadd hx hb dL_law_970 ?_
  refine va_sld hx hb hX hbl hbA hS (lw_in hi.1 hi.2.1 hi.2.2 2 (by decide)) dL_law_971 ?_
  refine ke_V (q := (RX9, TX9, 24)) (q0 := 0) (As := [.int (xs (i + 1).toNatClampNeg), .int (xs (i + 2).toNatClampNeg)]) (rest := [.int r]) 9 (hMK.frame (xW G A' C')) ⟨hx, hb, hml, hown, hts⟩ (fun rm mc ms h1 h2 h3 h4 => cwV 2 hts gT_X9_turn rfl h1 h2 (by decide +kernel) ⟨Nat.le_trans (Nat.add_le_add_right h3 1) (Nat.le_of_ble_eq_true rfl), Nat.le_trans (Nat.add_le_add_left h4 _) (Nat.le_of_ble_eq_true rfl)⟩) hK hN hP hD hS hA rfl rfl rfl hl.1 rfl (lv_room (Nat.le_of_ble_eq_true rfl)) dL_law_972 ⟨by show cells + 50 + 50 ≤ 600000; omega, by show slots + 2200 + 2200 ≤ room_1.slots; omega⟩ (fun v w H locs hQ hP hD hS => ?_)
  obtain ⟨w', ⟨rfl, rfl⟩, rfl⟩ := hQ
  have hP := vP_perm List.perm_append_comm hP
  have hD := vD_perm List.perm_append_comm hD
  refine lv_icmp_eq (tgt := 1224) hx hb dL_law_975 (by decide) (fun _ => ?_) (fun cc => absurd rfl cc)
  exact W.widen (k := cells + 100) (n := slots + 4400) (by omega) (by omega) (kk A' C' M' H locs hA' hok' hR' hP hD hS)
set_option maxRecDepth 20000 in
set_option maxHeartbeats 4000000 in
theorem lc_join {p : Program} {e : Env} {s : State} {m : MethodId} {below : List Frame} {meth : Method} {c : Code} (l : Launch) {b L : Nat} {xs : Nat → Int32} {G : GT} {Rl : XCt → MCt → Prop} (C0 : lw_At p s m meth c b L xs) (hK : va_K (gD G) vwCl (gT G) s) (hN : gN s) {Q : State → Prop} {A : XAd} {C : XCt} {D : MAd} {M : MCt} {H : Heap} {locs : List Loc} {i : Int32} {cells slots : Nat} {ls : Array Slot} (hi : 0 ≤ i.toInt ∧ i.toInt + 6 ≤ L ∧ L ≤ 3072) (hP : va_P (gD G) vwCl (xW G A C ++ mW G D M) H) (hD : va_D (nwA s) (xW G A C ++ mW G D M)) (hS : va_S (nwA s) s.heap H locs) (hl : lv_has ls 4 [(3, .int i), (2, .ref D.h), (1, .ref A.h), (0, .ref b)]) (hce : cells + 100 ≤ 600000) (hsl : slots + 4400 ≤ room_1.slots) (hsim : SimI l G Rl A C D M yX8_join wsX8_join yX9_join wsX9_join [.int (xs (i + 1).toNatClampNeg), .int (xs (i + 2).toNatClampNeg)])
    (kk : ∀ (A' : XAd) (C' : XCt) (M' : MCt) (H1 : Heap) (locs1 : List Loc), A'.h = A.h → xok A' C' → Rl C' M' → va_P (gD G) vwCl (xW G A' C' ++ mW G D M') H1 → va_D (nwA s) (xW G A' C' ++ mW G D M') → va_S (nwA s) s.heap H1 locs1 → W p l e room_1 s m #[Value.ref b] below meth c H1 locs1 (cells + 100) (slots + 4400) Q (F0 m 1224 ls [])) : W p l e room_1 s m #[Value.ref b] below meth c H locs cells slots Q (F0 m 980 ls []) := by
  obtain ⟨hx, hb, hr, hml, hown, hts, hX, hbl, hlocks, -⟩ := C0
  obtain ⟨r, M', hXK, hMK⟩ := hsim
  have hown : s.vm.findClass RL = some m.cls := hown
  have hA : ∀ q : Nat, s.heap.size ≤ q → nwA s q := fun _ h => h
  have hbA : ¬ nwA s b := Nat.not_le.mpr hbl
  refine lv_aload_n hx hb dL_law_980 rfl (lv_at hl 2 rfl) ?_
  refine lv_aload_n hx hb dL_law_981 rfl (lv_at hl 3 rfl) ?_
  refine lv_iload_n hx hb dL_law_982 rfl (lv_at hl 0 rfl) ?_
  refine lv_iconst (v := 1) hx hb dL_law_983 (by decide) ?_
  refine lv_iadd hx hb dL_law_984 ?_
  refine va_sld hx hb hX hbl hbA hS (lw_in hi.1 hi.2.1 hi.2.2 1 (by decide)) dL_law_985 ?_
  refine lv_aload_n hx hb dL_law_986 rfl (lv_at hl 3 rfl) ?_
  refine lv_iload_n hx hb dL_law_987 rfl (lv_at hl 0 rfl) ?_
  refine lv_iconst (v := 2) hx hb dL_law_988 (by decide) ?_
  refine lv_iadd hx hb dL_law_989 ?_
  refine va_sld hx hb hX hbl hbA hS (lw_in hi.1 hi.2.1 hi.2.2 2 (by decide)) dL_law_990 ?_
  refine ke_V (q := (RX8, TX8, 5)) (q0 := 0) (As := [.int (xs (i + 1).toNatClampNeg), .int (xs (i + 2).toNatClampNeg)]) (rest := []) 8 (hXK.frame (mW G D M)) ⟨hx, hb, hml, hown, hts⟩ (fun rm mc ms h1 h2 h3 h4 => cwV 2 hts gT_X8_join rfl h1 h2 (by decide +kernel) ⟨Nat.le_trans (Nat.add_le_add_right h3 1) (Nat.le_of_ble_eq_true rfl), Nat.le_trans (Nat.add_le_add_left h4 _) (Nat.le_of_ble_eq_true rfl)⟩) hK hN hP hD hS hA rfl rfl rfl hl.1 rfl (lv_room (Nat.le_of_ble_eq_true rfl)) dL_law_991 ⟨by show cells + 50 ≤ 600000; omega, by show slots + 2200 ≤ room_1.slots; omega⟩ (fun v w H locs hQ hP hD hS => ?_)
  obtain ⟨w', ⟨rfl, A', C', hA', hR', hok', rfl⟩, rfl⟩ := hQ
  have hP := vP_perm List.perm_append_comm hP
  have hD := vD_perm List.perm_append_comm hD
  refine lv_aload_n hx hb dL_law_994 rfl (lv_at hl 1 rfl) ?_
  refine lv_aload_n hx hb dL_law_995 rfl (lv_at hl 3 rfl) ?_
  refine lv_iload_n hx hb dL_law_996 rfl (lv_at hl 0 rfl) ?_
  refine lv_iconst (v := 1) hx hb dL_law_997 (by decide) ?_
  refine lv_iadd hx hb dL_law_998 ?_
  refine va_sld hx hb hX hbl hbA hS (lw_in hi.1 hi.2.1 hi.2.2 1 (by decide)) dL_law_999 ?_
  refine lv_aload_n hx hb dL_law_1000 rfl (lv_at hl 3 rfl) ?_
  refine lv_iload_n hx hb dL_law_1001 rfl (lv_at hl 0 rfl) ?_
  refine lv_iconst (v := 2) hx hb dL_law_1002 (by decide) ?_
  refine lv_iadd hx hb dL_law_1003 ?_
  refine va_sld hx hb hX hbl hbA hS (lw_in hi.1 hi.2.1 hi.2.2 2 (by decide)) dL_law_1004 ?_
  refine ke_V (q := (RX9, TX9, 24)) (q0 := 0) (As := [.int (xs (i + 1).toNatClampNeg), .int (xs (i + 2).toNatClampNeg)]) (rest := [.int r]) 9 (hMK.frame (xW G A' C')) ⟨hx, hb, hml, hown, hts⟩ (fun rm mc ms h1 h2 h3 h4 => cwV 2 hts gT_X9_join rfl h1 h2 (by decide +kernel) ⟨Nat.le_trans (Nat.add_le_add_right h3 1) (Nat.le_of_ble_eq_true rfl), Nat.le_trans (Nat.add_le_add_left h4 _) (Nat.le_of_ble_eq_true rfl)⟩) hK hN hP hD hS hA rfl rfl rfl hl.1 rfl (lv_room (Nat.le_of_ble_eq_true rfl)) dL_law_1005 ⟨by show cells + 50 + 50 ≤ 600000; omega, by show slots + 2200 + 2200 ≤ room_1.slots; omega⟩ (fun v w H locs hQ hP hD hS => ?_)
  obtain ⟨w', ⟨rfl, rfl⟩, rfl⟩ := hQ
  have hP := vP_perm List.perm_append_comm hP
  have hD := vD_perm List.perm_append_comm hD
  refine lv_icmp_eq (tgt := 1224) hx hb dL_law_1008 (by decide) (fun _ => ?_) (fun cc => absurd rfl cc)
  exact W.widen (k := cells + 100) (n := slots + 4400) (by omega) (by omega) (kk A' C' M' H locs hA' hok' hR' hP hD hS)
set_option maxRecDepth 20000 in
set_option maxHeartbeats 4000000 in
theorem lc_slice {p : Program} {e : Env} {s : State} {m : MethodId} {below : List Frame} {meth : Method} {c : Code} (l : Launch) {b L : Nat} {xs : Nat → Int32} {G : GT} {Rl : XCt → MCt → Prop} (C0 : lw_At p s m meth c b L xs) (hK : va_K (gD G) vwCl (gT G) s) (hN : gN s) {Q : State → Prop} {A : XAd} {C : XCt} {D : MAd} {M : MCt} {H : Heap} {locs : List Loc} {i : Int32} {cells slots : Nat} {ls : Array Slot} (hi : 0 ≤ i.toInt ∧ i.toInt + 6 ≤ L ∧ L ≤ 3072) (hP : va_P (gD G) vwCl (xW G A C ++ mW G D M) H) (hD : va_D (nwA s) (xW G A C ++ mW G D M)) (hS : va_S (nwA s) s.heap H locs) (hl : lv_has ls 4 [(3, .int i), (2, .ref D.h), (1, .ref A.h), (0, .ref b)]) (hce : cells + 100 ≤ 600000) (hsl : slots + 4400 ≤ room_1.slots) (hsim : SimI l G Rl A C D M yX8_slice wsX8_slice yX9_slice wsX9_slice [.int (xs (i + 1).toNatClampNeg), .int (xs (i + 2).toNatClampNeg), .int (xs (i + 3).toNatClampNeg)])
    (kk : ∀ (A' : XAd) (C' : XCt) (M' : MCt) (H1 : Heap) (locs1 : List Loc), A'.h = A.h → xok A' C' → Rl C' M' → va_P (gD G) vwCl (xW G A' C' ++ mW G D M') H1 → va_D (nwA s) (xW G A' C' ++ mW G D M') → va_S (nwA s) s.heap H1 locs1 → W p l e room_1 s m #[Value.ref b] below meth c H1 locs1 (cells + 100) (slots + 4400) Q (F0 m 1224 ls [])) : W p l e room_1 s m #[Value.ref b] below meth c H locs cells slots Q (F0 m 1013 ls []) := by
  obtain ⟨hx, hb, hr, hml, hown, hts, hX, hbl, hlocks, -⟩ := C0
  obtain ⟨r, M', hXK, hMK⟩ := hsim
  have hown : s.vm.findClass RL = some m.cls := hown
  have hA : ∀ q : Nat, s.heap.size ≤ q → nwA s q := fun _ h => h
  have hbA : ¬ nwA s b := Nat.not_le.mpr hbl
  refine lv_aload_n hx hb dL_law_1013 rfl (lv_at hl 2 rfl) ?_
  refine lv_aload_n hx hb dL_law_1014 rfl (lv_at hl 3 rfl) ?_
  refine lv_iload_n hx hb dL_law_1015 rfl (lv_at hl 0 rfl) ?_
  refine lv_iconst (v := 1) hx hb dL_law_1016 (by decide) ?_
  refine lv_iadd hx hb dL_law_1017 ?_
  refine va_sld hx hb hX hbl hbA hS (lw_in hi.1 hi.2.1 hi.2.2 1 (by decide)) dL_law_1018 ?_
  refine lv_aload_n hx hb dL_law_1019 rfl (lv_at hl 3 rfl) ?_
  refine lv_iload_n hx hb dL_law_1020 rfl (lv_at hl 0 rfl) ?_
  refine lv_iconst (v := 2) hx hb dL_law_1021 (by decide) ?_
  refine lv_iadd hx hb dL_law_1022 ?_
  refine va_sld hx hb hX hbl hbA hS (lw_in hi.1 hi.2.1 hi.2.2 2 (by decide)) dL_law_1023 ?_
  refine lv_aload_n hx hb dL_law_1024 rfl (lv_at hl 3 rfl) ?_
  refine lv_iload_n hx hb dL_law_1025 rfl (lv_at hl 0 rfl) ?_
  refine lv_iconst (v := 3) hx hb dL_law_1026 (by decide) ?_
  refine lv_iadd hx hb dL_law_1027 ?_
  refine va_sld hx hb hX hbl hbA hS (lw_in hi.1 hi.2.1 hi.2.2 3 (by decide)) dL_law_1028 ?_
  refine ke_V (q := (RX8, TX8, 5)) (q0 := 0) (As := [.int (xs (i + 1).toNatClampNeg), .int (xs (i + 2).toNatClampNeg), .int (xs (i + 3).toNatClampNeg)]) (rest := []) 8 (hXK.frame (mW G D M)) ⟨hx, hb, hml, hown, hts⟩ (fun rm mc ms h1 h2 h3 h4 => cwV 3 hts gT_X8_slice rfl h1 h2 (by decide +kernel) ⟨Nat.le_trans (Nat.add_le_add_right h3 1) (Nat.le_of_ble_eq_true rfl), Nat.le_trans (Nat.add_le_add_left h4 _) (Nat.le_of_ble_eq_true rfl)⟩) hK hN hP hD hS hA rfl rfl rfl hl.1 rfl (lv_room (Nat.le_of_ble_eq_true rfl)) dL_law_1029 ⟨by show cells + 50 ≤ 600000; omega, by show slots + 2200 ≤ room_1.slots; omega⟩ (fun v w H locs hQ hP hD hS => ?_)
  obtain ⟨w', ⟨rfl, A', C', hA', hR', hok', rfl⟩, rfl⟩ := hQ
  have hP := vP_perm List.perm_append_comm hP
  have hD := vD_perm List.perm_append_comm hD
  refine lv_aload_n hx hb dL_law_1032 rfl (lv_at hl 1 rfl) ?_
  refine lv_aload_n hx hb dL_law_1033 rfl (lv_at hl 3 rfl) ?_
  refine lv_iload_n hx hb dL_law_1034 rfl (lv_at hl 0 rfl) ?_
  refine lv_iconst (v := 1) hx hb dL_law_1035 (by decide) ?_
  refine lv_iadd hx hb dL_law_1036 ?_
  refine va_sld hx hb hX hbl hbA hS (lw_in hi.1 hi.2.1 hi.2.2 1 (by decide)) dL_law_1037 ?_
  refine lv_aload_n hx hb dL_law_1038 rfl (lv_at hl 3 rfl) ?_
  refine lv_iload_n hx hb dL_law_1039 rfl (lv_at hl 0 rfl) ?_
  refine lv_iconst (v := 2) hx hb dL_law_1040 (by decide) ?_
  refine lv_iadd hx hb dL_law_1041 ?_
  refine va_sld hx hb hX hbl hbA hS (lw_in hi.1 hi.2.1 hi.2.2 2 (by decide)) dL_law_1042 ?_
  refine lv_aload_n hx hb dL_law_1043 rfl (lv_at hl 3 rfl) ?_
  refine lv_iload_n hx hb dL_law_1044 rfl (lv_at hl 0 rfl) ?_
  refine lv_iconst (v := 3) hx hb dL_law_1045 (by decide) ?_
  refine lv_iadd hx hb dL_law_1046 ?_
  refine va_sld hx hb hX hbl hbA hS (lw_in hi.1 hi.2.1 hi.2.2 3 (by decide)) dL_law_1047 ?_
  refine ke_V (q := (RX9, TX9, 24)) (q0 := 0) (As := [.int (xs (i + 1).toNatClampNeg), .int (xs (i + 2).toNatClampNeg), .int (xs (i + 3).toNatClampNeg)]) (rest := [.int r]) 9 (hMK.frame (xW G A' C')) ⟨hx, hb, hml, hown, hts⟩ (fun rm mc ms h1 h2 h3 h4 => cwV 3 hts gT_X9_slice rfl h1 h2 (by decide +kernel) ⟨Nat.le_trans (Nat.add_le_add_right h3 1) (Nat.le_of_ble_eq_true rfl), Nat.le_trans (Nat.add_le_add_left h4 _) (Nat.le_of_ble_eq_true rfl)⟩) hK hN hP hD hS hA rfl rfl rfl hl.1 rfl (lv_room (Nat.le_of_ble_eq_true rfl)) dL_law_1048 ⟨by show cells + 50 + 50 ≤ 600000; omega, by show slots + 2200 + 2200 ≤ room_1.slots; omega⟩ (fun v w H locs hQ hP hD hS => ?_)
  obtain ⟨w', ⟨rfl, rfl⟩, rfl⟩ := hQ
  have hP := vP_perm List.perm_append_comm hP
  have hD := vD_perm List.perm_append_comm hD
  refine lv_icmp_eq (tgt := 1224) hx hb dL_law_1051 (by decide) (fun _ => ?_) (fun cc => absurd rfl cc)
  exact W.widen (k := cells + 100) (n := slots + 4400) (by omega) (by omega) (kk A' C' M' H locs hA' hok' hR' hP hD hS)
set_option maxRecDepth 20000 in
set_option maxHeartbeats 4000000 in
theorem lc_within {p : Program} {e : Env} {s : State} {m : MethodId} {below : List Frame} {meth : Method} {c : Code} (l : Launch) {b L : Nat} {xs : Nat → Int32} {G : GT} {Rl : XCt → MCt → Prop} (C0 : lw_At p s m meth c b L xs) (hK : va_K (gD G) vwCl (gT G) s) (hN : gN s) {Q : State → Prop} {A : XAd} {C : XCt} {D : MAd} {M : MCt} {H : Heap} {locs : List Loc} {i : Int32} {cells slots : Nat} {ls : Array Slot} (hi : 0 ≤ i.toInt ∧ i.toInt + 6 ≤ L ∧ L ≤ 3072) (hP : va_P (gD G) vwCl (xW G A C ++ mW G D M) H) (hD : va_D (nwA s) (xW G A C ++ mW G D M)) (hS : va_S (nwA s) s.heap H locs) (hl : lv_has ls 4 [(3, .int i), (2, .ref D.h), (1, .ref A.h), (0, .ref b)]) (hce : cells + 100 ≤ 600000) (hsl : slots + 4400 ≤ room_1.slots) (hsim : SimI l G Rl A C D M yX8_within wsX8_within yX9_within wsX9_within [.int (xs (i + 1).toNatClampNeg), .int (xs (i + 2).toNatClampNeg)])
    (kk : ∀ (A' : XAd) (C' : XCt) (M' : MCt) (H1 : Heap) (locs1 : List Loc), A'.h = A.h → xok A' C' → Rl C' M' → va_P (gD G) vwCl (xW G A' C' ++ mW G D M') H1 → va_D (nwA s) (xW G A' C' ++ mW G D M') → va_S (nwA s) s.heap H1 locs1 → W p l e room_1 s m #[Value.ref b] below meth c H1 locs1 (cells + 100) (slots + 4400) Q (F0 m 1224 ls [])) : W p l e room_1 s m #[Value.ref b] below meth c H locs cells slots Q (F0 m 1056 ls []) := by
  obtain ⟨hx, hb, hr, hml, hown, hts, hX, hbl, hlocks, -⟩ := C0
  obtain ⟨r, M', hXK, hMK⟩ := hsim
  have hown : s.vm.findClass RL = some m.cls := hown
  have hA : ∀ q : Nat, s.heap.size ≤ q → nwA s q := fun _ h => h
  have hbA : ¬ nwA s b := Nat.not_le.mpr hbl
  refine lv_aload_n hx hb dL_law_1056 rfl (lv_at hl 2 rfl) ?_
  refine lv_aload_n hx hb dL_law_1057 rfl (lv_at hl 3 rfl) ?_
  refine lv_iload_n hx hb dL_law_1058 rfl (lv_at hl 0 rfl) ?_
  refine lv_iconst (v := 1) hx hb dL_law_1059 (by decide) ?_
  refine lv_iadd hx hb dL_law_1060 ?_
  refine va_sld hx hb hX hbl hbA hS (lw_in hi.1 hi.2.1 hi.2.2 1 (by decide)) dL_law_1061 ?_
  refine lv_aload_n hx hb dL_law_1062 rfl (lv_at hl 3 rfl) ?_
  refine lv_iload_n hx hb dL_law_1063 rfl (lv_at hl 0 rfl) ?_
  refine lv_iconst (v := 2) hx hb dL_law_1064 (by decide) ?_
  refine lv_iadd hx hb dL_law_1065 ?_
  refine va_sld hx hb hX hbl hbA hS (lw_in hi.1 hi.2.1 hi.2.2 2 (by decide)) dL_law_1066 ?_
  refine ke_V (q := (RX8, TX8, 5)) (q0 := 0) (As := [.int (xs (i + 1).toNatClampNeg), .int (xs (i + 2).toNatClampNeg)]) (rest := []) 8 (hXK.frame (mW G D M)) ⟨hx, hb, hml, hown, hts⟩ (fun rm mc ms h1 h2 h3 h4 => cwV 2 hts gT_X8_within rfl h1 h2 (by decide +kernel) ⟨Nat.le_trans (Nat.add_le_add_right h3 1) (Nat.le_of_ble_eq_true rfl), Nat.le_trans (Nat.add_le_add_left h4 _) (Nat.le_of_ble_eq_true rfl)⟩) hK hN hP hD hS hA rfl rfl rfl hl.1 rfl (lv_room (Nat.le_of_ble_eq_true rfl)) dL_law_1067 ⟨by show cells + 50 ≤ 600000; omega, by show slots + 2200 ≤ room_1.slots; omega⟩ (fun v w H locs hQ hP hD hS => ?_)
  obtain ⟨w', ⟨rfl, A', C', hA', hR', hok', rfl⟩, rfl⟩ := hQ
  have hP := vP_perm List.perm_append_comm hP
  have hD := vD_perm List.perm_append_comm hD
  refine lv_aload_n hx hb dL_law_1070 rfl (lv_at hl 1 rfl) ?_
  refine lv_aload_n hx hb dL_law_1071 rfl (lv_at hl 3 rfl) ?_
  refine lv_iload_n hx hb dL_law_1072 rfl (lv_at hl 0 rfl) ?_
  refine lv_iconst (v := 1) hx hb dL_law_1073 (by decide) ?_
  refine lv_iadd hx hb dL_law_1074 ?_
  refine va_sld hx hb hX hbl hbA hS (lw_in hi.1 hi.2.1 hi.2.2 1 (by decide)) dL_law_1075 ?_
  refine lv_aload_n hx hb dL_law_1076 rfl (lv_at hl 3 rfl) ?_
  refine lv_iload_n hx hb dL_law_1077 rfl (lv_at hl 0 rfl) ?_
  refine lv_iconst (v := 2) hx hb dL_law_1078 (by decide) ?_
  refine lv_iadd hx hb dL_law_1079 ?_
  refine va_sld hx hb hX hbl hbA hS (lw_in hi.1 hi.2.1 hi.2.2 2 (by decide)) dL_law_1080 ?_
  refine ke_V (q := (RX9, TX9, 24)) (q0 := 0) (As := [.int (xs (i + 1).toNatClampNeg), .int (xs (i + 2).toNatClampNeg)]) (rest := [.int r]) 9 (hMK.frame (xW G A' C')) ⟨hx, hb, hml, hown, hts⟩ (fun rm mc ms h1 h2 h3 h4 => cwV 2 hts gT_X9_within rfl h1 h2 (by decide +kernel) ⟨Nat.le_trans (Nat.add_le_add_right h3 1) (Nat.le_of_ble_eq_true rfl), Nat.le_trans (Nat.add_le_add_left h4 _) (Nat.le_of_ble_eq_true rfl)⟩) hK hN hP hD hS hA rfl rfl rfl hl.1 rfl (lv_room (Nat.le_of_ble_eq_true rfl)) dL_law_1081 ⟨by show cells + 50 + 50 ≤ 600000; omega, by show slots + 2200 + 2200 ≤ room_1.slots; omega⟩ (fun v w H locs hQ hP hD hS => ?_)
  obtain ⟨w', ⟨rfl, rfl⟩, rfl⟩ := hQ
  have hP := vP_perm List.perm_append_comm hP
  have hD := vD_perm List.perm_append_comm hD
  refine lv_icmp_eq (tgt := 1224) hx hb dL_law_1084 (by decide) (fun _ => ?_) (fun cc => absurd rfl cc)
  exact W.widen (k := cells + 100) (n := slots + 4400) (by omega) (by omega) (kk A' C' M' H locs hA' hok' hR' hP hD hS)
set_option maxRecDepth 20000 in
set_option maxHeartbeats 4000000 in
theorem lc_same {p : Program} {e : Env} {s : State} {m : MethodId} {below : List Frame} {meth : Method} {c : Code} (l : Launch) {b L : Nat} {xs : Nat → Int32} {G : GT} {Rl : XCt → MCt → Prop} (C0 : lw_At p s m meth c b L xs) (hK : va_K (gD G) vwCl (gT G) s) (hN : gN s) {Q : State → Prop} {A : XAd} {C : XCt} {D : MAd} {M : MCt} {H : Heap} {locs : List Loc} {i : Int32} {cells slots : Nat} {ls : Array Slot} (hi : 0 ≤ i.toInt ∧ i.toInt + 6 ≤ L ∧ L ≤ 3072) (hP : va_P (gD G) vwCl (xW G A C ++ mW G D M) H) (hD : va_D (nwA s) (xW G A C ++ mW G D M)) (hS : va_S (nwA s) s.heap H locs) (hl : lv_has ls 4 [(3, .int i), (2, .ref D.h), (1, .ref A.h), (0, .ref b)]) (hce : cells + 100 ≤ 600000) (hsl : slots + 4400 ≤ room_1.slots) (hsim : SimI l G Rl A C D M yX8_same wsX8_same yX9_same wsX9_same [.int (xs (i + 1).toNatClampNeg), .int (xs (i + 2).toNatClampNeg)])
    (kk : ∀ (A' : XAd) (C' : XCt) (M' : MCt) (H1 : Heap) (locs1 : List Loc), A'.h = A.h → xok A' C' → Rl C' M' → va_P (gD G) vwCl (xW G A' C' ++ mW G D M') H1 → va_D (nwA s) (xW G A' C' ++ mW G D M') → va_S (nwA s) s.heap H1 locs1 → W p l e room_1 s m #[Value.ref b] below meth c H1 locs1 (cells + 100) (slots + 4400) Q (F0 m 1224 ls [])) : W p l e room_1 s m #[Value.ref b] below meth c H locs cells slots Q (F0 m 1089 ls []) := by
  obtain ⟨hx, hb, hr, hml, hown, hts, hX, hbl, hlocks, -⟩ := C0
  obtain ⟨r, M', hXK, hMK⟩ := hsim
  have hown : s.vm.findClass RL = some m.cls := hown
  have hA : ∀ q : Nat, s.heap.size ≤ q → nwA s q := fun _ h => h
  have hbA : ¬ nwA s b := Nat.not_le.mpr hbl
  refine lv_aload_n hx hb dL_law_1089 rfl (lv_at hl 2 rfl) ?_
  refine lv_aload_n hx hb dL_law_1090 rfl (lv_at hl 3 rfl) ?_
  refine lv_iload_n hx hb dL_law_1091 rfl (lv_at hl 0 rfl) ?_
  refine lv_iconst (v := 1) hx hb dL_law_1092 (by decide) ?_
  refine lv_iadd hx hb dL_law_1093 ?_
  refine va_sld hx hb hX hbl hbA hS (lw_in hi.1 hi.2.1 hi.2.2 1 (by decide)) dL_law_1094 ?_
  refine lv_aload_n hx hb dL_law_1095 rfl (lv_at hl 3 rfl) ?_
  refine lv_iload_n hx hb dL_law_1096 rfl (lv_at hl 0 rfl) ?_
  refine lv_iconst (v := 2) hx hb dL_law_1097 (by decide) ?_
  refine lv_iadd hx hb dL_law_1098 ?_
  refine va_sld hx hb hX hbl hbA hS (lw_in hi.1 hi.2.1 hi.2.2 2 (by decide)) dL_law_1099 ?_
  refine ke_V (q := (RX8, TX8, 5)) (q0 := 0) (As := [.int (xs (i + 1).toNatClampNeg), .int (xs (i + 2).toNatClampNeg)]) (rest := []) 8 (hXK.frame (mW G D M)) ⟨hx, hb, hml, hown, hts⟩ (fun rm mc ms h1 h2 h3 h4 => cwV 2 hts gT_X8_same rfl h1 h2 (by decide +kernel) ⟨Nat.le_trans (Nat.add_le_add_right h3 1) (Nat.le_of_ble_eq_true rfl), Nat.le_trans (Nat.add_le_add_left h4 _) (Nat.le_of_ble_eq_true rfl)⟩) hK hN hP hD hS hA rfl rfl rfl hl.1 rfl (lv_room (Nat.le_of_ble_eq_true rfl)) dL_law_1100 ⟨by show cells + 50 ≤ 600000; omega, by show slots + 2200 ≤ room_1.slots; omega⟩ (fun v w H locs hQ hP hD hS => ?_)
  obtain ⟨w', ⟨rfl, A', C', hA', hR', hok', rfl⟩, rfl⟩ := hQ
  have hP := vP_perm List.perm_append_comm hP
  have hD := vD_perm List.perm_append_comm hD
  refine lv_aload_n hx hb dL_law_1103 rfl (lv_at hl 1 rfl) ?_
  refine lv_aload_n hx hb dL_law_1104 rfl (lv_at hl 3 rfl) ?_
  refine lv_iload_n hx hb dL_law_1105 rfl (lv_at hl 0 rfl) ?_
  refine lv_iconst (v := 1) hx hb dL_law_1106 (by decide) ?_
  refine lv_iadd hx hb dL_law_1107 ?_
  refine va_sld hx hb hX hbl hbA hS (lw_in hi.1 hi.2.1 hi.2.2 1 (by decide)) dL_law_1108 ?_
  refine lv_aload_n hx hb dL_law_1109 rfl (lv_at hl 3 rfl) ?_
  refine lv_iload_n hx hb dL_law_1110 rfl (lv_at hl 0 rfl) ?_
  refine lv_iconst (v := 2) hx hb dL_law_1111 (by decide) ?_
  refine lv_iadd hx hb dL_law_1112 ?_
  refine va_sld hx hb hX hbl hbA hS (lw_in hi.1 hi.2.1 hi.2.2 2 (by decide)) dL_law_1113 ?_
  refine ke_V (q := (RX9, TX9, 24)) (q0 := 0) (As := [.int (xs (i + 1).toNatClampNeg), .int (xs (i + 2).toNatClampNeg)]) (rest := [.int r]) 9 (hMK.frame (xW G A' C')) ⟨hx, hb, hml, hown, hts⟩ (fun rm mc ms h1 h2 h3 h4 => cwV 2 hts gT_X9_same rfl h1 h2 (by decide +kernel) ⟨Nat.le_trans (Nat.add_le_add_right h3 1) (Nat.le_of_ble_eq_true rfl), Nat.le_trans (Nat.add_le_add_left h4 _) (Nat.le_of_ble_eq_true rfl)⟩) hK hN hP hD hS hA rfl rfl rfl hl.1 rfl (lv_room (Nat.le_of_ble_eq_true rfl)) dL_law_1114 ⟨by show cells + 50 + 50 ≤ 600000; omega, by show slots + 2200 + 2200 ≤ room_1.slots; omega⟩ (fun v w H locs hQ hP hD hS => ?_)
  obtain ⟨w', ⟨rfl, rfl⟩, rfl⟩ := hQ
  have hP := vP_perm List.perm_append_comm hP
  have hD := vD_perm List.perm_append_comm hD
  refine lv_icmp_eq (tgt := 1224) hx hb dL_law_1117 (by decide) (fun _ => ?_) (fun cc => absurd rfl cc)
  exact W.widen (k := cells + 100) (n := slots + 4400) (by omega) (by omega) (kk A' C' M' H locs hA' hok' hR' hP hD hS)
set_option maxRecDepth 20000 in
set_option maxHeartbeats 4000000 in
theorem lc_most {p : Program} {e : Env} {s : State} {m : MethodId} {below : List Frame} {meth : Method} {c : Code} (l : Launch) {b L : Nat} {xs : Nat → Int32} {G : GT} {Rl : XCt → MCt → Prop} (C0 : lw_At p s m meth c b L xs) (hK : va_K (gD G) vwCl (gT G) s) (hN : gN s) {Q : State → Prop} {A : XAd} {C : XCt} {D : MAd} {M : MCt} {H : Heap} {locs : List Loc} {i : Int32} {cells slots : Nat} {ls : Array Slot} (hi : 0 ≤ i.toInt ∧ i.toInt + 6 ≤ L ∧ L ≤ 3072) (hP : va_P (gD G) vwCl (xW G A C ++ mW G D M) H) (hD : va_D (nwA s) (xW G A C ++ mW G D M)) (hS : va_S (nwA s) s.heap H locs) (hl : lv_has ls 4 [(3, .int i), (2, .ref D.h), (1, .ref A.h), (0, .ref b)]) (hce : cells + 100 ≤ 600000) (hsl : slots + 4400 ≤ room_1.slots) (hsim : SimI l G Rl A C D M yX8_most wsX8_most yX9_most wsX9_most [.int (xs (i + 1).toNatClampNeg), .int (xs (i + 2).toNatClampNeg), .int (xs (i + 3).toNatClampNeg), .int (xs (i + 4).toNatClampNeg), .int (if (xs (i + 5).toNatClampNeg) = 0 then 0 else 1)])
    (kk : ∀ (A' : XAd) (C' : XCt) (M' : MCt) (H1 : Heap) (locs1 : List Loc), A'.h = A.h → xok A' C' → Rl C' M' → va_P (gD G) vwCl (xW G A' C' ++ mW G D M') H1 → va_D (nwA s) (xW G A' C' ++ mW G D M') → va_S (nwA s) s.heap H1 locs1 → W p l e room_1 s m #[Value.ref b] below meth c H1 locs1 (cells + 100) (slots + 4400) Q (F0 m 1224 ls [])) : W p l e room_1 s m #[Value.ref b] below meth c H locs cells slots Q (F0 m 1122 ls []) := by
  obtain ⟨hx, hb, hr, hml, hown, hts, hX, hbl, hlocks, -⟩ := C0
  obtain ⟨r, M', hXK, hMK⟩ := hsim
  have hown : s.vm.findClass RL = some m.cls := hown
  have hA : ∀ q : Nat, s.heap.size ≤ q → nwA s q := fun _ h => h
  have hbA : ¬ nwA s b := Nat.not_le.mpr hbl
  refine lv_aload_n hx hb dL_law_1122 rfl (lv_at hl 2 rfl) ?_
  refine lv_aload_n hx hb dL_law_1123 rfl (lv_at hl 3 rfl) ?_
  refine lv_iload_n hx hb dL_law_1124 rfl (lv_at hl 0 rfl) ?_
  refine lv_iconst (v := 1) hx hb dL_law_1125 (by decide) ?_
  refine lv_iadd hx hb dL_law_1126 ?_
  refine va_sld hx hb hX hbl hbA hS (lw_in hi.1 hi.2.1 hi.2.2 1 (by decide)) dL_law_1127 ?_
  refine lv_aload_n hx hb dL_law_1128 rfl (lv_at hl 3 rfl) ?_
  refine lv_iload_n hx hb dL_law_1129 rfl (lv_at hl 0 rfl) ?_
  refine lv_iconst (v := 2) hx hb dL_law_1130 (by decide) ?_
  refine lv_iadd hx hb dL_law_1131 ?_
  refine va_sld hx hb hX hbl hbA hS (lw_in hi.1 hi.2.1 hi.2.2 2 (by decide)) dL_law_1132 ?_
  refine lv_aload_n hx hb dL_law_1133 rfl (lv_at hl 3 rfl) ?_
  refine lv_iload_n hx hb dL_law_1134 rfl (lv_at hl 0 rfl) ?_
  refine lv_iconst (v := 3) hx hb dL_law_1135 (by decide) ?_
  refine lv_iadd hx hb dL_law_1136 ?_
  refine va_sld hx hb hX hbl hbA hS (lw_in hi.1 hi.2.1 hi.2.2 3 (by decide)) dL_law_1137 ?_
  refine lv_aload_n hx hb dL_law_1138 rfl (lv_at hl 3 rfl) ?_
  refine lv_iload_n hx hb dL_law_1139 rfl (lv_at hl 0 rfl) ?_
  refine lv_iconst (v := 4) hx hb dL_law_1140 (by decide) ?_
  refine lv_iadd hx hb dL_law_1141 ?_
  refine va_sld hx hb hX hbl hbA hS (lw_in hi.1 hi.2.1 hi.2.2 4 (by decide)) dL_law_1142 ?_
  refine lv_aload_n hx hb dL_law_1143 rfl (lv_at hl 3 rfl) ?_
  refine lv_iload_n hx hb dL_law_1144 rfl (lv_at hl 0 rfl) ?_
  refine lv_iconst (v := 5) hx hb dL_law_1145 (by decide) ?_
  refine lv_iadd hx hb dL_law_1146 ?_
  refine va_sld hx hb hX hbl hbA hS (lw_in hi.1 hi.2.1 hi.2.2 5 (by decide)) dL_law_1147 ?_
  refine lv_if_eq (tgt := 1155) hx hb dL_law_1148 (by decide) (fun cz => ?_) (fun cz => ?_)
  · rw [if_pos cz] at hXK hMK
    refine lv_iconst (v := 0) hx hb dL_law_1155 (by decide) ?_
    refine ke_V (q := (RX8, TX8, 5)) (q0 := 0) (As := [.int (xs (i + 1).toNatClampNeg), .int (xs (i + 2).toNatClampNeg), .int (xs (i + 3).toNatClampNeg), .int (xs (i + 4).toNatClampNeg), .int 0]) (rest := []) 8 (hXK.frame (mW G D M)) ⟨hx, hb, hml, hown, hts⟩ (fun rm mc ms h1 h2 h3 h4 => cwV 5 hts gT_X8_most rfl h1 h2 (by decide +kernel) ⟨Nat.le_trans (Nat.add_le_add_right h3 1) (Nat.le_of_ble_eq_true rfl), Nat.le_trans (Nat.add_le_add_left h4 _) (Nat.le_of_ble_eq_true rfl)⟩) hK hN hP hD hS hA rfl rfl rfl hl.1 rfl (lv_room (Nat.le_of_ble_eq_true rfl)) dL_law_1156 ⟨by show cells + 50 ≤ 600000; omega, by show slots + 2200 ≤ room_1.slots; omega⟩ (fun v w H locs hQ hP hD hS => ?_)
    obtain ⟨w', ⟨rfl, A', C', hA', hR', hok', rfl⟩, rfl⟩ := hQ
    have hP := vP_perm List.perm_append_comm hP
    have hD := vD_perm List.perm_append_comm hD
    refine lv_aload_n hx hb dL_law_1159 rfl (lv_at hl 1 rfl) ?_
    refine lv_aload_n hx hb dL_law_1160 rfl (lv_at hl 3 rfl) ?_
    refine lv_iload_n hx hb dL_law_1161 rfl (lv_at hl 0 rfl) ?_
    refine lv_iconst (v := 1) hx hb dL_law_1162 (by decide) ?_
    refine lv_iadd hx hb dL_law_1163 ?_
    refine va_sld hx hb hX hbl hbA hS (lw_in hi.1 hi.2.1 hi.2.2 1 (by decide)) dL_law_1164 ?_
    refine lv_aload_n hx hb dL_law_1165 rfl (lv_at hl 3 rfl) ?_
    refine lv_iload_n hx hb dL_law_1166 rfl (lv_at hl 0 rfl) ?_
    refine lv_iconst (v := 2) hx hb dL_law_1167 (by decide) ?_
    refine lv_iadd hx hb dL_law_1168 ?_
    refine va_sld hx hb hX hbl hbA hS (lw_in hi.1 hi.2.1 hi.2.2 2 (by decide)) dL_law_1169 ?_
    refine lv_aload_n hx hb dL_law_1170 rfl (lv_at hl 3 rfl) ?_
    refine lv_iload_n hx hb dL_law_1171 rfl (lv_at hl 0 rfl) ?_
    refine lv_iconst (v := 3) hx hb dL_law_1172 (by decide) ?_
    refine lv_iadd hx hb dL_law_1173 ?_
    refine va_sld hx hb hX hbl hbA hS (lw_in hi.1 hi.2.1 hi.2.2 3 (by decide)) dL_law_1174 ?_
    refine lv_aload_n hx hb dL_law_1175 rfl (lv_at hl 3 rfl) ?_
    refine lv_iload_n hx hb dL_law_1176 rfl (lv_at hl 0 rfl) ?_
    refine lv_iconst (v := 4) hx hb dL_law_1177 (by decide) ?_
    refine lv_iadd hx hb dL_law_1178 ?_
    refine va_sld hx hb hX hbl hbA hS (lw_in hi.1 hi.2.1 hi.2.2 4 (by decide)) dL_law_1179 ?_
    refine lv_aload_n hx hb dL_law_1180 rfl (lv_at hl 3 rfl) ?_
    refine lv_iload_n hx hb dL_law_1181 rfl (lv_at hl 0 rfl) ?_
    refine lv_iconst (v := 5) hx hb dL_law_1182 (by decide) ?_
    refine lv_iadd hx hb dL_law_1183 ?_
    refine va_sld hx hb hX hbl hbA hS (lw_in hi.1 hi.2.1 hi.2.2 5 (by decide)) dL_law_1184 ?_
    refine lv_if_eq (tgt := 1192) hx hb dL_law_1185 (by decide) (fun _ => ?_) (fun cn => absurd cz cn)
    refine lv_iconst (v := 0) hx hb dL_law_1192 (by decide) ?_
    refine ke_V (q := (RX9, TX9, 24)) (q0 := 0) (As := [.int (xs (i + 1).toNatClampNeg), .int (xs (i + 2).toNatClampNeg), .int (xs (i + 3).toNatClampNeg), .int (xs (i + 4).toNatClampNeg), .int 0]) (rest := [.int r]) 9 (hMK.frame (xW G A' C')) ⟨hx, hb, hml, hown, hts⟩ (fun rm mc ms h1 h2 h3 h4 => cwV 5 hts gT_X9_most rfl h1 h2 (by decide +kernel) ⟨Nat.le_trans (Nat.add_le_add_right h3 1) (Nat.le_of_ble_eq_true rfl), Nat.le_trans (Nat.add_le_add_left h4 _) (Nat.le_of_ble_eq_true rfl)⟩) hK hN hP hD hS hA rfl rfl rfl hl.1 rfl (lv_room (Nat.le_of_ble_eq_true rfl)) dL_law_1193 ⟨by show cells + 50 + 50 ≤ 600000; omega, by show slots + 2200 + 2200 ≤ room_1.slots; omega⟩ (fun v w H locs hQ hP hD hS => ?_)
    obtain ⟨w', ⟨rfl, rfl⟩, rfl⟩ := hQ
    have hP := vP_perm List.perm_append_comm hP
    have hD := vD_perm List.perm_append_comm hD
    refine lv_icmp_eq (tgt := 1224) hx hb dL_law_1196 (by decide) (fun _ => ?_) (fun cc => absurd rfl cc)
    exact W.widen (k := cells + 100) (n := slots + 4400) (by omega) (by omega) (kk A' C' M' H locs hA' hok' hR' hP hD hS)
  · rw [if_neg cz] at hXK hMK
    refine lv_iconst (v := 1) hx hb dL_law_1151 (by decide) ?_
    refine lv_goto (tgt := 1156) hx hb dL_law_1152 (by decide) ?_
    refine ke_V (q := (RX8, TX8, 5)) (q0 := 0) (As := [.int (xs (i + 1).toNatClampNeg), .int (xs (i + 2).toNatClampNeg), .int (xs (i + 3).toNatClampNeg), .int (xs (i + 4).toNatClampNeg), .int 1]) (rest := []) 8 (hXK.frame (mW G D M)) ⟨hx, hb, hml, hown, hts⟩ (fun rm mc ms h1 h2 h3 h4 => cwV 5 hts gT_X8_most rfl h1 h2 (by decide +kernel) ⟨Nat.le_trans (Nat.add_le_add_right h3 1) (Nat.le_of_ble_eq_true rfl), Nat.le_trans (Nat.add_le_add_left h4 _) (Nat.le_of_ble_eq_true rfl)⟩) hK hN hP hD hS hA rfl rfl rfl hl.1 rfl (lv_room (Nat.le_of_ble_eq_true rfl)) dL_law_1156 ⟨by show cells + 50 ≤ 600000; omega, by show slots + 2200 ≤ room_1.slots; omega⟩ (fun v w H locs hQ hP hD hS => ?_)
    obtain ⟨w', ⟨rfl, A', C', hA', hR', hok', rfl⟩, rfl⟩ := hQ
    have hP := vP_perm List.perm_append_comm hP
    have hD := vD_perm List.perm_append_comm hD
    refine lv_aload_n hx hb dL_law_1159 rfl (lv_at hl 1 rfl) ?_
    refine lv_aload_n hx hb dL_law_1160 rfl (lv_at hl 3 rfl) ?_
    refine lv_iload_n hx hb dL_law_1161 rfl (lv_at hl 0 rfl) ?_
    refine lv_iconst (v := 1) hx hb dL_law_1162 (by decide) ?_
    refine lv_iadd hx hb dL_law_1163 ?_
    refine va_sld hx hb hX hbl hbA hS (lw_in hi.1 hi.2.1 hi.2.2 1 (by decide)) dL_law_1164 ?_
    refine lv_aload_n hx hb dL_law_1165 rfl (lv_at hl 3 rfl) ?_
    refine lv_iload_n hx hb dL_law_1166 rfl (lv_at hl 0 rfl) ?_
    refine lv_iconst (v := 2) hx hb dL_law_1167 (by decide) ?_
    refine lv_iadd hx hb dL_law_1168 ?_
    refine va_sld hx hb hX hbl hbA hS (lw_in hi.1 hi.2.1 hi.2.2 2 (by decide)) dL_law_1169 ?_
    refine lv_aload_n hx hb dL_law_1170 rfl (lv_at hl 3 rfl) ?_
    refine lv_iload_n hx hb dL_law_1171 rfl (lv_at hl 0 rfl) ?_
    refine lv_iconst (v := 3) hx hb dL_law_1172 (by decide) ?_
    refine lv_iadd hx hb dL_law_1173 ?_
    refine va_sld hx hb hX hbl hbA hS (lw_in hi.1 hi.2.1 hi.2.2 3 (by decide)) dL_law_1174 ?_
    refine lv_aload_n hx hb dL_law_1175 rfl (lv_at hl 3 rfl) ?_
    refine lv_iload_n hx hb dL_law_1176 rfl (lv_at hl 0 rfl) ?_
    refine lv_iconst (v := 4) hx hb dL_law_1177 (by decide) ?_
    refine lv_iadd hx hb dL_law_1178 ?_
    refine va_sld hx hb hX hbl hbA hS (lw_in hi.1 hi.2.1 hi.2.2 4 (by decide)) dL_law_1179 ?_
    refine lv_aload_n hx hb dL_law_1180 rfl (lv_at hl 3 rfl) ?_
    refine lv_iload_n hx hb dL_law_1181 rfl (lv_at hl 0 rfl) ?_
    refine lv_iconst (v := 5) hx hb dL_law_1182 (by decide) ?_
    refine lv_iadd hx hb dL_law_1183 ?_
    refine va_sld hx hb hX hbl hbA hS (lw_in hi.1 hi.2.1 hi.2.2 5 (by decide)) dL_law_1184 ?_
    refine lv_if_eq (tgt := 1192) hx hb dL_law_1185 (by decide) (fun cn => absurd cn cz) (fun _ => ?_)
    refine lv_iconst (v := 1) hx hb dL_law_1188 (by decide) ?_
    refine lv_goto (tgt := 1193) hx hb dL_law_1189 (by decide) ?_
    refine ke_V (q := (RX9, TX9, 24)) (q0 := 0) (As := [.int (xs (i + 1).toNatClampNeg), .int (xs (i + 2).toNatClampNeg), .int (xs (i + 3).toNatClampNeg), .int (xs (i + 4).toNatClampNeg), .int 1]) (rest := [.int r]) 9 (hMK.frame (xW G A' C')) ⟨hx, hb, hml, hown, hts⟩ (fun rm mc ms h1 h2 h3 h4 => cwV 5 hts gT_X9_most rfl h1 h2 (by decide +kernel) ⟨Nat.le_trans (Nat.add_le_add_right h3 1) (Nat.le_of_ble_eq_true rfl), Nat.le_trans (Nat.add_le_add_left h4 _) (Nat.le_of_ble_eq_true rfl)⟩) hK hN hP hD hS hA rfl rfl rfl hl.1 rfl (lv_room (Nat.le_of_ble_eq_true rfl)) dL_law_1193 ⟨by show cells + 50 + 50 ≤ 600000; omega, by show slots + 2200 + 2200 ≤ room_1.slots; omega⟩ (fun v w H locs hQ hP hD hS => ?_)
    obtain ⟨w', ⟨rfl, rfl⟩, rfl⟩ := hQ
    have hP := vP_perm List.perm_append_comm hP
    have hD := vD_perm List.perm_append_comm hD
    refine lv_icmp_eq (tgt := 1224) hx hb dL_law_1196 (by decide) (fun _ => ?_) (fun cc => absurd rfl cc)
    exact W.widen (k := cells + 100) (n := slots + 4400) (by omega) (by omega) (kk A' C' M' H locs hA' hok' hR' hP hD hS)
set_option maxRecDepth 20000 in
set_option maxHeartbeats 4000000 in
theorem lc_all {p : Program} {e : Env} {s : State} {m : MethodId} {below : List Frame} {meth : Method} {c : Code} (l : Launch) {b L : Nat} {xs : Nat → Int32} {G : GT} {Rl : XCt → MCt → Prop} (C0 : lw_At p s m meth c b L xs) (hK : va_K (gD G) vwCl (gT G) s) (hN : gN s) {Q : State → Prop} {A : XAd} {C : XCt} {D : MAd} {M : MCt} {H : Heap} {locs : List Loc} {i : Int32} {cells slots : Nat} {ls : Array Slot} (hi : 0 ≤ i.toInt ∧ i.toInt + 6 ≤ L ∧ L ≤ 3072) (hP : va_P (gD G) vwCl (xW G A C ++ mW G D M) H) (hD : va_D (nwA s) (xW G A C ++ mW G D M)) (hS : va_S (nwA s) s.heap H locs) (hl : lv_has ls 4 [(3, .int i), (2, .ref D.h), (1, .ref A.h), (0, .ref b)]) (hce : cells + 100 ≤ 600000) (hsl : slots + 4400 ≤ room_1.slots) (hsim : SimI l G Rl A C D M yX8_all wsX8_all yX9_all wsX9_all [.int (xs (i + 1).toNatClampNeg)])
    (kk : ∀ (A' : XAd) (C' : XCt) (M' : MCt) (H1 : Heap) (locs1 : List Loc), A'.h = A.h → xok A' C' → Rl C' M' → va_P (gD G) vwCl (xW G A' C' ++ mW G D M') H1 → va_D (nwA s) (xW G A' C' ++ mW G D M') → va_S (nwA s) s.heap H1 locs1 → W p l e room_1 s m #[Value.ref b] below meth c H1 locs1 (cells + 100) (slots + 4400) Q (F0 m 1224 ls [])) : W p l e room_1 s m #[Value.ref b] below meth c H locs cells slots Q (F0 m 1201 ls []) := by
  obtain ⟨hx, hb, hr, hml, hown, hts, hX, hbl, hlocks, -⟩ := C0
  obtain ⟨r, M', hXK, hMK⟩ := hsim
  have hown : s.vm.findClass RL = some m.cls := hown
  have hA : ∀ q : Nat, s.heap.size ≤ q → nwA s q := fun _ h => h
  have hbA : ¬ nwA s b := Nat.not_le.mpr hbl
  refine lv_aload_n hx hb dL_law_1201 rfl (lv_at hl 2 rfl) ?_
  refine lv_aload_n hx hb dL_law_1202 rfl (lv_at hl 3 rfl) ?_
  refine lv_iload_n hx hb dL_law_1203 rfl (lv_at hl 0 rfl) ?_
  refine lv_iconst (v := 1) hx hb dL_law_1204 (by decide) ?_
  refine lv_iadd hx hb dL_law_1205 ?_
  refine va_sld hx hb hX hbl hbA hS (lw_in hi.1 hi.2.1 hi.2.2 1 (by decide)) dL_law_1206 ?_
  refine ke_V (q := (RX8, TX8, 5)) (q0 := 0) (As := [.int (xs (i + 1).toNatClampNeg)]) (rest := []) 8 (hXK.frame (mW G D M)) ⟨hx, hb, hml, hown, hts⟩ (fun rm mc ms h1 h2 h3 h4 => cwV 1 hts gT_X8_all rfl h1 h2 (by decide +kernel) ⟨Nat.le_trans (Nat.add_le_add_right h3 1) (Nat.le_of_ble_eq_true rfl), Nat.le_trans (Nat.add_le_add_left h4 _) (Nat.le_of_ble_eq_true rfl)⟩) hK hN hP hD hS hA rfl rfl rfl hl.1 rfl (lv_room (Nat.le_of_ble_eq_true rfl)) dL_law_1207 ⟨by show cells + 50 ≤ 600000; omega, by show slots + 2200 ≤ room_1.slots; omega⟩ (fun v w H locs hQ hP hD hS => ?_)
  obtain ⟨w', ⟨rfl, A', C', hA', hR', hok', rfl⟩, rfl⟩ := hQ
  have hP := vP_perm List.perm_append_comm hP
  have hD := vD_perm List.perm_append_comm hD
  refine lv_aload_n hx hb dL_law_1210 rfl (lv_at hl 1 rfl) ?_
  refine lv_aload_n hx hb dL_law_1211 rfl (lv_at hl 3 rfl) ?_
  refine lv_iload_n hx hb dL_law_1212 rfl (lv_at hl 0 rfl) ?_
  refine lv_iconst (v := 1) hx hb dL_law_1213 (by decide) ?_
  refine lv_iadd hx hb dL_law_1214 ?_
  refine va_sld hx hb hX hbl hbA hS (lw_in hi.1 hi.2.1 hi.2.2 1 (by decide)) dL_law_1215 ?_
  refine ke_V (q := (RX9, TX9, 24)) (q0 := 0) (As := [.int (xs (i + 1).toNatClampNeg)]) (rest := [.int r]) 9 (hMK.frame (xW G A' C')) ⟨hx, hb, hml, hown, hts⟩ (fun rm mc ms h1 h2 h3 h4 => cwV 1 hts gT_X9_all rfl h1 h2 (by decide +kernel) ⟨Nat.le_trans (Nat.add_le_add_right h3 1) (Nat.le_of_ble_eq_true rfl), Nat.le_trans (Nat.add_le_add_left h4 _) (Nat.le_of_ble_eq_true rfl)⟩) hK hN hP hD hS hA rfl rfl rfl hl.1 rfl (lv_room (Nat.le_of_ble_eq_true rfl)) dL_law_1216 ⟨by show cells + 50 + 50 ≤ 600000; omega, by show slots + 2200 + 2200 ≤ room_1.slots; omega⟩ (fun v w H locs hQ hP hD hS => ?_)
  obtain ⟨w', ⟨rfl, rfl⟩, rfl⟩ := hQ
  have hP := vP_perm List.perm_append_comm hP
  have hD := vD_perm List.perm_append_comm hD
  refine lv_icmp_eq (tgt := 1224) hx hb dL_law_1219 (by decide) (fun _ => ?_) (fun cc => absurd rfl cc)
  exact W.widen (k := cells + 100) (n := slots + 4400) (by omega) (by omega) (kk A' C' M' H locs hA' hok' hR' hP hD hS)
