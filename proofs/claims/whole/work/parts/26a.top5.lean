abbrev wXG (G : GT) (h0 qb f0 o0 an d0 qs m0 c0 s0 b0 al ag aw : Nat) (bc_ : Int32) (RB : Nat → Option Nat) (fl : Int32) (mo : Int32) (dg : Int32) (NU : Nat → Int32) : va_W := [(h0, .inr (8, [.ref d0, .ref qs, .ref qb, .ref m0, .int bc_])), (qb, .inl (gB G, 8, .inr (.inr (.inr (.inr RB))))), (f0, .inr (0, [.int fl, .int mo, .ref c0, .ref s0, .ref b0, .ref al, .ref ag, .ref aw, .ref o0])), (o0, .inr (2, [.ref an, .int dg])), (an, .inl (gI G, 4, .inl NU))]
def fX8_count_N (bc_ : Int32) (p1 : Int32) (p2 : Int32) : Option (Int32) :=
  (bd (fX8_find_N bc_ p1) (fun v_1 => (some (-1))))
abbrev rX8_count_N : Room := { frames := 1, cells := 0, slots := 0, locals := 21 }
set_option maxHeartbeats 40000000 in
set_option maxRecDepth 100000 in
theorem kX8_count_N (l : Launch) (G : GT) (h0 qb d0 qs m0 : Nat) (bc_ : Int32) (RB : Nat → Option Nat) (p1 : Int32) (p2 : Int32) (res : Int32) (hF : fX8_count_N bc_ p1 p2 = some res) : Met l yX8_count wsX8_count rX8_count_N (va_Pc [.ref h0, .int p1, .int p2] (pR G (wXBn G h0 qb d0 qs m0 bc_ RB))) (vp_Si (fun r => r = res)) 0 0 (fun _ => False) := by
  refine Met.ofW (cc := cX8_count) (maxL := 4) (ret := (some .int)) (by decide) rfl ?_
  intro p e s m args below meth c s₁ B hml hv
  obtain ⟨rfl, hP, hK⟩ := hv
  have hx := B.exec
  have hb := B.bytes
  have hr := B.returns
  have hts := atoms_spec (ws := wsX8_count) B.pre
  have hown : s.vm.findClass RX8 = some m.cls := findClass_of_methodNamed B.named
  have hlocks := B.notSynchronized
  have hl := lv_entry ([.ref h0, .int p1, .int p2]) (n := 4) (Nat.le_of_ble_eq_true rfl)
  rw [lg_entry_eq]
  generalize (lg_sl ([.ref h0, .int p1, .int p2]) ++ List.replicate (4 - (lg_sl ([.ref h0, .int p1, .int p2])).length) Slot.unset).toArray = ls at hl ⊢
  have hl : lv_has ls 4 [(0, .ref h0), (1, .int p1), (2, .int p2)] := hl
  unfold fX8_count_N at hF
  refine lv_aload_n hx hb dX8_count_0 rfl (lv_at hl 0 rfl) ?_
  refine lv_iload_n hx hb dX8_count_1 rfl (lv_at hl 1 rfl) ?_
  obtain ⟨v_1, hv_1, hF⟩ := bd_s hF
  refine ro_qe (va_runV (As := [.int p1]) (rest := []) ⟨hx, hb, hml, hown, hts⟩ (kX8_find_N l G h0 qb d0 qs m0 bc_ RB p1 v_1 hv_1) (cwV 1 hts gX8_count_X8_find rfl rfl rfl (by decide +kernel) ⟨Nat.le_of_ble_eq_true rfl, Nat.le_of_ble_eq_true rfl⟩) (pvR (q0 := 0) 8 hK (hP.sub (ws' := (wXBn G h0 qb d0 qs m0 bc_ RB)) [0, 1] rfl) rfl rfl) rfl rfl hl.1 rfl (lv_room (Nat.le_of_ble_eq_true rfl)) dX8_count_2 ⟨Nat.le_of_ble_eq_true rfl, Nat.le_of_ble_eq_true rfl⟩) ?_
  refine lv_astore_nN (lv' := [(3, .null), (0, .ref h0), (1, .int p1), (2, .int p2)]) hx hb dX8_count_5 rfl hl (by decide) rfl (fun ls hl => ?_)
  refine lv_aload_nN hx hb dX8_count_6 rfl (lv_at hl 0 rfl) ?_
  refine lv_ifnullN (tgt := 19) hx hb dX8_count_7 (by decide) ?_
  refine lv_iconst (v := (-1)) hx hb dX8_count_19 (by decide) ?_
  exact W.iret (v := (-1)) hx hb hr  (fun t ht hW => ⟨(-1), rfl, (so_e hF), ht⟩) (fun q h => absurd h List.not_mem_nil) dX8_count_20
def fX8_count_c (bc_ : Int32) (NU : Nat → Int32) (p1 : Int32) (p2 : Int32) : Option (Int32) :=
  (bd (fX8_find_F bc_ p1) (fun v_1 => (if p2 < 0 then (some (-1)) else (if p2 ≤ 5 then (bd (fX0_growth_c) (fun v_4 => (bd (fX2_at NU p2.toInt64) (fun v_5 => (some v_5.toInt32))))) else (some (-1))))))
abbrev rX8_count_c : Room := { frames := 1, cells := 0, slots := 0, locals := 22 }
set_option maxHeartbeats 40000000 in
set_option maxRecDepth 100000 in
theorem kX8_count_c (l : Launch) (G : GT) (h0 qb f0 o0 an d0 qs m0 c0 s0 b0 al ag aw : Nat) (bc_ : Int32) (RB : Nat → Option Nat) (fl : Int32) (mo : Int32) (dg : Int32) (NU : Nat → Int32) (p1 : Int32) (p2 : Int32) (hq : RB p1.toNatClampNeg = some f0) (res : Int32) (hF : fX8_count_c bc_ NU p1 p2 = some res) : Met l yX8_count wsX8_count rX8_count_c (va_Pc [.ref h0, .int p1, .int p2] (pR G (wXG G h0 qb f0 o0 an d0 qs m0 c0 s0 b0 al ag aw bc_ RB fl mo dg NU))) (vp_Si (fun r => r = res)) 0 0 (fun _ => False) := by
  refine Met.ofW (cc := cX8_count) (maxL := 4) (ret := (some .int)) (by decide) rfl ?_
  intro p e s m args below meth c s₁ B hml hv
  obtain ⟨rfl, hP, hK⟩ := hv
  have hx := B.exec
  have hb := B.bytes
  have hr := B.returns
  have hts := atoms_spec (ws := wsX8_count) B.pre
  have hown : s.vm.findClass RX8 = some m.cls := findClass_of_methodNamed B.named
  have hlocks := B.notSynchronized
  have hl := lv_entry ([.ref h0, .int p1, .int p2]) (n := 4) (Nat.le_of_ble_eq_true rfl)
  rw [lg_entry_eq]
  generalize (lg_sl ([.ref h0, .int p1, .int p2]) ++ List.replicate (4 - (lg_sl ([.ref h0, .int p1, .int p2])).length) Slot.unset).toArray = ls at hl ⊢
  have hl : lv_has ls 4 [(0, .ref h0), (1, .int p1), (2, .int p2)] := hl
  unfold fX8_count_c at hF
  refine lv_aload_n hx hb dX8_count_0 rfl (lv_at hl 0 rfl) ?_
  refine lv_iload_n hx hb dX8_count_1 rfl (lv_at hl 1 rfl) ?_
  obtain ⟨v_1, hv_1, hF⟩ := bd_s hF
  refine ro_qe (va_runV (As := [.int p1]) (rest := []) ⟨hx, hb, hml, hown, hts⟩ (kX8_find_F l G h0 qb d0 qs m0 f0 bc_ RB p1 (by assumption) v_1 hv_1) (cwV 1 hts gX8_count_X8_find rfl rfl rfl (by decide +kernel) ⟨Nat.le_of_ble_eq_true rfl, Nat.le_of_ble_eq_true rfl⟩) (pvR (q0 := 0) 8 hK (hP.sub (ws' := (wXB G h0 qb d0 qs m0 m0 bc_ RB)) [0, 1] rfl) rfl rfl) rfl rfl hl.1 rfl (lv_room (Nat.le_of_ble_eq_true rfl)) dX8_count_2 ⟨Nat.le_of_ble_eq_true rfl, Nat.le_of_ble_eq_true rfl⟩) ?_
  refine lv_astore_n (lv' := [(3, .ref f0), (0, .ref h0), (1, .int p1), (2, .int p2)]) hx hb dX8_count_5 rfl hl (by decide) rfl (fun ls hl => ?_)
  refine lv_aload_n hx hb dX8_count_6 rfl (lv_at hl 0 rfl) ?_
  refine lv_ifnull hx hb dX8_count_7 ?_
  refine lv_iload_n hx hb dX8_count_10 rfl (lv_at hl 3 rfl) ?_
  refine lv_if_lt (tgt := 19) hx hb dX8_count_11 (by decide) (fun c_2 => ?_) (fun c_2 => ?_)
  · replace hF := it_p c_2 hF
    refine lv_iconst (v := (-1)) hx hb dX8_count_19 (by decide) ?_
    exact W.iret (v := (-1)) hx hb hr  (fun t ht hW => ⟨(-1), rfl, (so_e hF), ht⟩) (fun q h => absurd h List.not_mem_nil) dX8_count_20
  · replace hF := it_n c_2 hF
    refine lv_iload_n hx hb dX8_count_14 rfl (lv_at hl 3 rfl) ?_
    refine lv_iconst (v := 5) hx hb dX8_count_15 (by decide) ?_
    refine lv_icmp_le (tgt := 21) hx hb dX8_count_16 (by decide) (fun c_3 => ?_) (fun c_3 => ?_)
    · replace hF := it_p c_3 hF
      refine lv_aload_n hx hb dX8_count_21 rfl (lv_at hl 0 rfl) ?_
      obtain ⟨v_4, hv_4, hF⟩ := bd_s hF
      refine ro_qe (va_runV (As := []) (rest := []) ⟨hx, hb, hml, hown, hts⟩ (kX0_growth_c l G f0 c0 s0 b0 al ag aw o0 fl mo v_4 hv_4) (cwV 0 hts gX8_count_X0_growth rfl rfl rfl (by decide +kernel) ⟨Nat.le_of_ble_eq_true rfl, Nat.le_of_ble_eq_true rfl⟩) (pvR (q0 := 0) 0 hK (hP.sub (ws' := (wBGc G f0 c0 s0 b0 al ag aw o0 fl mo)) [2] rfl) rfl rfl) rfl rfl hl.1 rfl (lv_room (Nat.le_of_ble_eq_true rfl)) dX8_count_22 ⟨Nat.le_of_ble_eq_true rfl, Nat.le_of_ble_eq_true rfl⟩) ?_
      refine lv_iload_n hx hb dX8_count_25 rfl (lv_at hl 3 rfl) ?_
      refine lv_i2l hx hb dX8_count_26 rfl ?_
      obtain ⟨v_5, hv_5, hF⟩ := bd_s hF
      refine ro_le (va_runV (As := [.long p2.toInt64]) (rest := []) ⟨hx, hb, hml, hown, hts⟩ (kX2_at l G o0 an dg NU p2.toInt64 v_5 hv_5) (cwV 1 hts gX8_count_X2_at rfl rfl rfl (by decide +kernel) ⟨Nat.le_of_ble_eq_true rfl, Nat.le_of_ble_eq_true rfl⟩) (pvR (q0 := 0) 2 hK (hP.sub (ws' := (wGro G o0 an dg NU)) [3, 4] rfl) rfl rfl) rfl rfl hl.1 rfl (lv_room (Nat.le_of_ble_eq_true rfl)) dX8_count_27 ⟨Nat.le_of_ble_eq_true rfl, Nat.le_of_ble_eq_true rfl⟩) ?_
      refine lv_l2i hx hb dX8_count_30 rfl ?_
      exact W.iret (v := v_5.toInt32) hx hb hr  (fun t ht hW => ⟨v_5.toInt32, rfl, (so_e hF), ht⟩) (fun q h => absurd h List.not_mem_nil) dX8_count_31
    · replace hF := it_n c_3 hF
      refine lv_iconst (v := (-1)) hx hb dX8_count_19 (by decide) ?_
      exact W.iret (v := (-1)) hx hb hr  (fun t ht hW => ⟨(-1), rfl, (so_e hF), ht⟩) (fun q h => absurd h List.not_mem_nil) dX8_count_20
def fX8_inner_N (bc_ : Int32) (p1 : Int32) (p2 : Int32) : Option (Int32) :=
  (bd (fX8_find_N bc_ p1) (fun v_1 => (some (-1))))
abbrev rX8_inner_N : Room := { frames := 1, cells := 0, slots := 0, locals := 21 }
set_option maxHeartbeats 40000000 in
set_option maxRecDepth 100000 in
theorem kX8_inner_N (l : Launch) (G : GT) (h0 qb d0 qs m0 : Nat) (bc_ : Int32) (RB : Nat → Option Nat) (p1 : Int32) (p2 : Int32) (res : Int32) (hF : fX8_inner_N bc_ p1 p2 = some res) : Met l yX8_inner wsX8_inner rX8_inner_N (va_Pc [.ref h0, .int p1, .int p2] (pR G (wXBn G h0 qb d0 qs m0 bc_ RB))) (vp_Si (fun r => r = res)) 0 0 (fun _ => False) := by
  refine Met.ofW (cc := cX8_inner) (maxL := 5) (ret := (some .int)) (by decide) rfl ?_
  intro p e s m args below meth c s₁ B hml hv
  obtain ⟨rfl, hP, hK⟩ := hv
  have hx := B.exec
  have hb := B.bytes
  have hr := B.returns
  have hts := atoms_spec (ws := wsX8_inner) B.pre
  have hown : s.vm.findClass RX8 = some m.cls := findClass_of_methodNamed B.named
  have hlocks := B.notSynchronized
  have hl := lv_entry ([.ref h0, .int p1, .int p2]) (n := 5) (Nat.le_of_ble_eq_true rfl)
  rw [lg_entry_eq]
  generalize (lg_sl ([.ref h0, .int p1, .int p2]) ++ List.replicate (5 - (lg_sl ([.ref h0, .int p1, .int p2])).length) Slot.unset).toArray = ls at hl ⊢
  have hl : lv_has ls 5 [(0, .ref h0), (1, .int p1), (2, .int p2)] := hl
  unfold fX8_inner_N at hF
  refine lv_aload_n hx hb dX8_inner_0 rfl (lv_at hl 0 rfl) ?_
  refine lv_iload_n hx hb dX8_inner_1 rfl (lv_at hl 1 rfl) ?_
  obtain ⟨v_1, hv_1, hF⟩ := bd_s hF
  refine ro_qe (va_runV (As := [.int p1]) (rest := []) ⟨hx, hb, hml, hown, hts⟩ (kX8_find_N l G h0 qb d0 qs m0 bc_ RB p1 v_1 hv_1) (cwV 1 hts gX8_inner_X8_find rfl rfl rfl (by decide +kernel) ⟨Nat.le_of_ble_eq_true rfl, Nat.le_of_ble_eq_true rfl⟩) (pvR (q0 := 0) 8 hK (hP.sub (ws' := (wXBn G h0 qb d0 qs m0 bc_ RB)) [0, 1] rfl) rfl rfl) rfl rfl hl.1 rfl (lv_room (Nat.le_of_ble_eq_true rfl)) dX8_inner_2 ⟨Nat.le_of_ble_eq_true rfl, Nat.le_of_ble_eq_true rfl⟩) ?_
  refine lv_astore_nN (lv' := [(3, .null), (0, .ref h0), (1, .int p1), (2, .int p2)]) hx hb dX8_inner_5 rfl hl (by decide) rfl (fun ls hl => ?_)
  refine lv_aload_nN hx hb dX8_inner_6 rfl (lv_at hl 0 rfl) ?_
  refine lv_ifnullN (tgt := 17) hx hb dX8_inner_7 (by decide) ?_
  refine lv_iconst (v := (-1)) hx hb dX8_inner_17 (by decide) ?_
  exact W.iret (v := (-1)) hx hb hr  (fun t ht hW => ⟨(-1), rfl, (so_e hF), ht⟩) (fun q h => absurd h List.not_mem_nil) dX8_inner_18
def fX8_inner_c (bc_ : Int32) (fl : Int32) (NU : Nat → Int32) (p1 : Int32) (p2 : Int32) : Option (Int32) :=
  (bd (fX8_find_F bc_ p1) (fun v_1 => (bd (fX8_isSwelling p2) (fun v_2 => (if v_2 = 0 then (some (-1)) else (bd (fX0_growth_c) (fun v_5 => (bd (fX2_at NU ((-p2).toInt64)) (fun v_6 => (if fl - fl / 2 * 2 = 0 then (some v_6.toInt32) else (some (-v_6.toInt32))))))))))))
abbrev rX8_inner_c : Room := { frames := 1, cells := 0, slots := 0, locals := 22 }
set_option maxHeartbeats 40000000 in
set_option maxRecDepth 100000 in
theorem kX8_inner_c (l : Launch) (G : GT) (h0 qb f0 o0 an d0 qs m0 c0 s0 b0 al ag aw : Nat) (bc_ : Int32) (RB : Nat → Option Nat) (fl : Int32) (mo : Int32) (dg : Int32) (NU : Nat → Int32) (p1 : Int32) (p2 : Int32) (hq : RB p1.toNatClampNeg = some f0) (res : Int32) (hF : fX8_inner_c bc_ fl NU p1 p2 = some res) : Met l yX8_inner wsX8_inner rX8_inner_c (va_Pc [.ref h0, .int p1, .int p2] (pR G (wXG G h0 qb f0 o0 an d0 qs m0 c0 s0 b0 al ag aw bc_ RB fl mo dg NU))) (vp_Si (fun r => r = res)) 0 0 (fun _ => False) := by
  refine Met.ofW (cc := cX8_inner) (maxL := 5) (ret := (some .int)) (by decide) rfl ?_
  intro p e s m args below meth c s₁ B hml hv
  obtain ⟨rfl, hP, hK⟩ := hv
  have hx := B.exec
  have hb := B.bytes
  have hr := B.returns
  have hts := atoms_spec (ws := wsX8_inner) B.pre
  have hown : s.vm.findClass RX8 = some m.cls := findClass_of_methodNamed B.named
  have hlocks := B.notSynchronized
  have hin0 : ∀ w ∈ u_ws RX0 TX0 9, w ∈ wsX8_inner := by decide +kernel
  have hfl97 := hts (.fieldLink RX8 97 "SwellBodies$Body" "fills" "I") (by decide +kernel)
  have hl := lv_entry ([.ref h0, .int p1, .int p2]) (n := 5) (Nat.le_of_ble_eq_true rfl)
  rw [lg_entry_eq]
  generalize (lg_sl ([.ref h0, .int p1, .int p2]) ++ List.replicate (5 - (lg_sl ([.ref h0, .int p1, .int p2])).length) Slot.unset).toArray = ls at hl ⊢
  have hl : lv_has ls 5 [(0, .ref h0), (1, .int p1), (2, .int p2)] := hl
  unfold fX8_inner_c at hF
  refine lv_aload_n hx hb dX8_inner_0 rfl (lv_at hl 0 rfl) ?_
  refine lv_iload_n hx hb dX8_inner_1 rfl (lv_at hl 1 rfl) ?_
  obtain ⟨v_1, hv_1, hF⟩ := bd_s hF
  refine ro_qe (va_runV (As := [.int p1]) (rest := []) ⟨hx, hb, hml, hown, hts⟩ (kX8_find_F l G h0 qb d0 qs m0 f0 bc_ RB p1 (by assumption) v_1 hv_1) (cwV 1 hts gX8_inner_X8_find rfl rfl rfl (by decide +kernel) ⟨Nat.le_of_ble_eq_true rfl, Nat.le_of_ble_eq_true rfl⟩) (pvR (q0 := 0) 8 hK (hP.sub (ws' := (wXB G h0 qb d0 qs m0 m0 bc_ RB)) [0, 1] rfl) rfl rfl) rfl rfl hl.1 rfl (lv_room (Nat.le_of_ble_eq_true rfl)) dX8_inner_2 ⟨Nat.le_of_ble_eq_true rfl, Nat.le_of_ble_eq_true rfl⟩) ?_
  refine lv_astore_n (lv' := [(3, .ref f0), (0, .ref h0), (1, .int p1), (2, .int p2)]) hx hb dX8_inner_5 rfl hl (by decide) rfl (fun ls hl => ?_)
  refine lv_aload_n hx hb dX8_inner_6 rfl (lv_at hl 0 rfl) ?_
  refine lv_ifnull hx hb dX8_inner_7 ?_
  refine lv_iload_n hx hb dX8_inner_10 rfl (lv_at hl 3 rfl) ?_
  obtain ⟨v_2, hv_2, hF⟩ := bd_s hF
  refine ro_ze (va_runS (As := [.int p2]) (rest := []) ⟨hx, hb, hml, hown, hts⟩ (kX8_isSwelling l G p2 v_2 hv_2) (va_cwS 1 hts gX8_inner_X8_isSwelling rfl rfl rfl (by decide +kernel) ⟨Nat.le_of_ble_eq_true rfl, Nat.le_of_ble_eq_true rfl⟩) (psR hK (hP.sub (ws' := ([] : va_W)) [] rfl)) rfl rfl hl.1 rfl (lv_room (Nat.le_of_ble_eq_true rfl)) dX8_inner_11 ⟨Nat.le_of_ble_eq_true rfl, Nat.le_of_ble_eq_true rfl⟩) (fun hb_3 => ?_)
  refine lv_if_ne (tgt := 19) hx hb dX8_inner_14 (by decide) (fun c_4 => ?_) (fun c_4 => ?_)
  · replace hF := it_n c_4 hF
    refine lv_aload_n hx hb dX8_inner_19 rfl (lv_at hl 0 rfl) ?_
    obtain ⟨v_5, hv_5, hF⟩ := bd_s hF
    refine ro_qe (va_runV (As := []) (rest := []) ⟨hx, hb, hml, hown, hts⟩ (kX0_growth_c l G f0 c0 s0 b0 al ag aw o0 fl mo v_5 hv_5) (cwV 0 hts gX8_inner_X0_growth rfl rfl rfl (by decide +kernel) ⟨Nat.le_of_ble_eq_true rfl, Nat.le_of_ble_eq_true rfl⟩) (pvR (q0 := 0) 0 hK (hP.sub (ws' := (wBGc G f0 c0 s0 b0 al ag aw o0 fl mo)) [2] rfl) rfl rfl) rfl rfl hl.1 rfl (lv_room (Nat.le_of_ble_eq_true rfl)) dX8_inner_20 ⟨Nat.le_of_ble_eq_true rfl, Nat.le_of_ble_eq_true rfl⟩) ?_
    refine lv_iload_n hx hb dX8_inner_23 rfl (lv_at hl 3 rfl) ?_
    refine lv_ineg hx hb dX8_inner_24 ?_
    refine lv_i2l hx hb dX8_inner_25 rfl ?_
    obtain ⟨v_6, hv_6, hF⟩ := bd_s hF
    refine ro_le (va_runV (As := [.long ((-p2).toInt64)]) (rest := []) ⟨hx, hb, hml, hown, hts⟩ (kX2_at l G o0 an dg NU ((-p2).toInt64) v_6 hv_6) (cwV 1 hts gX8_inner_X2_at rfl rfl rfl (by decide +kernel) ⟨Nat.le_of_ble_eq_true rfl, Nat.le_of_ble_eq_true rfl⟩) (pvR (q0 := 0) 2 hK (hP.sub (ws' := (wGro G o0 an dg NU)) [3, 4] rfl) rfl rfl) rfl rfl hl.1 rfl (lv_room (Nat.le_of_ble_eq_true rfl)) dX8_inner_26 ⟨Nat.le_of_ble_eq_true rfl, Nat.le_of_ble_eq_true rfl⟩) ?_
    refine lv_l2i hx hb dX8_inner_29 rfl ?_
    refine lv_istore (lv' := [(4, .int v_6.toInt32), (3, .ref f0), (0, .ref h0), (1, .int p1), (2, .int p2)]) hx hb dX8_inner_30 hl (by decide) rfl (fun ls hl => ?_)
    refine lv_aload_n hx hb dX8_inner_32 rfl (lv_at hl 1 rfl) ?_
    refine va_get (ci := 0) (v := .int fl) (C := RX0) (T := TX0) (N := 9) hx hb hts hin0 hown hK hP 2 rfl rfl 0 (by decide) hfl97 (fun _ h9 => h9) rfl dX8_inner_33 ?_
    refine lv_iconst (v := 2) hx hb dX8_inner_36 (by decide) ?_
    refine lv_irem hx hb dX8_inner_37 (by decide) ?_
    refine lv_if_ne (tgt := 46) hx hb dX8_inner_38 (by decide) (fun c_7 => ?_) (fun c_7 => ?_)
    · replace hF := it_n c_7 hF
      refine lv_iload hx hb dX8_inner_46 (lv_at hl 0 rfl) ?_
      refine lv_ineg hx hb dX8_inner_48 ?_
      exact W.iret (v := -v_6.toInt32) hx hb hr  (fun t ht hW => ⟨-v_6.toInt32, rfl, (so_e hF), ht⟩) (fun q h => absurd h List.not_mem_nil) dX8_inner_49
    · replace hF := it_p c_7 hF
      refine lv_iload hx hb dX8_inner_41 (lv_at hl 0 rfl) ?_
      refine lv_goto (tgt := 49) hx hb dX8_inner_43 (by decide) ?_
      exact W.iret (v := v_6.toInt32) hx hb hr  (fun t ht hW => ⟨v_6.toInt32, rfl, (so_e hF), ht⟩) (fun q h => absurd h List.not_mem_nil) dX8_inner_49
  · replace hF := it_p c_4 hF
    refine lv_iconst (v := (-1)) hx hb dX8_inner_17 (by decide) ?_
    exact W.iret (v := (-1)) hx hb hr  (fun t ht hW => ⟨(-1), rfl, (so_e hF), ht⟩) (fun q h => absurd h List.not_mem_nil) dX8_inner_18
def fX8_number_N (bc_ : Int32) (p1 : Int32) (p2 : Int32) : Option (Int32) :=
  (bd (fX8_find_N bc_ p1) (fun v_1 => (some (-1000000))))
abbrev rX8_number_N : Room := { frames := 1, cells := 0, slots := 0, locals := 21 }
set_option maxHeartbeats 40000000 in
set_option maxRecDepth 100000 in
theorem kX8_number_N (l : Launch) (G : GT) (h0 qb d0 qs m0 : Nat) (bc_ : Int32) (RB : Nat → Option Nat) (p1 : Int32) (p2 : Int32) (res : Int32) (hF : fX8_number_N bc_ p1 p2 = some res) : Met l yX8_number wsX8_number rX8_number_N (va_Pc [.ref h0, .int p1, .int p2] (pR G (wXBn G h0 qb d0 qs m0 bc_ RB))) (vp_Si (fun r => r = res)) 0 0 (fun _ => False) := by
  refine Met.ofW (cc := cX8_number) (maxL := 4) (ret := (some .int)) (by decide) rfl ?_
  intro p e s m args below meth c s₁ B hml hv
  obtain ⟨rfl, hP, hK⟩ := hv
  have hx := B.exec
  have hb := B.bytes
  have hr := B.returns
  have hts := atoms_spec (ws := wsX8_number) B.pre
  have hown : s.vm.findClass RX8 = some m.cls := findClass_of_methodNamed B.named
  have hlocks := B.notSynchronized
  have hcn150 := hts (.constant RX8 150 (-1000000)) (by decide +kernel)
  have hl := lv_entry ([.ref h0, .int p1, .int p2]) (n := 4) (Nat.le_of_ble_eq_true rfl)
  rw [lg_entry_eq]
  generalize (lg_sl ([.ref h0, .int p1, .int p2]) ++ List.replicate (4 - (lg_sl ([.ref h0, .int p1, .int p2])).length) Slot.unset).toArray = ls at hl ⊢
  have hl : lv_has ls 4 [(0, .ref h0), (1, .int p1), (2, .int p2)] := hl
  unfold fX8_number_N at hF
  refine lv_aload_n hx hb dX8_number_0 rfl (lv_at hl 0 rfl) ?_
  refine lv_iload_n hx hb dX8_number_1 rfl (lv_at hl 1 rfl) ?_
  obtain ⟨v_1, hv_1, hF⟩ := bd_s hF
  refine ro_qe (va_runV (As := [.int p1]) (rest := []) ⟨hx, hb, hml, hown, hts⟩ (kX8_find_N l G h0 qb d0 qs m0 bc_ RB p1 v_1 hv_1) (cwV 1 hts gX8_number_X8_find rfl rfl rfl (by decide +kernel) ⟨Nat.le_of_ble_eq_true rfl, Nat.le_of_ble_eq_true rfl⟩) (pvR (q0 := 0) 8 hK (hP.sub (ws' := (wXBn G h0 qb d0 qs m0 bc_ RB)) [0, 1] rfl) rfl rfl) rfl rfl hl.1 rfl (lv_room (Nat.le_of_ble_eq_true rfl)) dX8_number_2 ⟨Nat.le_of_ble_eq_true rfl, Nat.le_of_ble_eq_true rfl⟩) ?_
  refine lv_astore_nN (lv' := [(3, .null), (0, .ref h0), (1, .int p1), (2, .int p2)]) hx hb dX8_number_5 rfl hl (by decide) rfl (fun ls hl => ?_)
  refine lv_aload_nN hx hb dX8_number_6 rfl (lv_at hl 0 rfl) ?_
  refine lv_ifnullN (tgt := 19) hx hb dX8_number_7 (by decide) ?_
  refine lv_ldc (v := (-1000000)) hx hb hown hcn150 dX8_number_19 ?_
  exact W.iret (v := (-1000000)) hx hb hr  (fun t ht hW => ⟨(-1000000), rfl, (so_e hF), ht⟩) (fun q h => absurd h List.not_mem_nil) dX8_number_21
def fX8_number_c (bc_ : Int32) (NU : Nat → Int32) (p1 : Int32) (p2 : Int32) : Option (Int32) :=
  (bd (fX8_find_F bc_ p1) (fun v_1 => (if p2 < 0 then (some (-1000000)) else (if p2 ≤ 3 then (bd (fX0_growth_c) (fun v_4 => (gd_in p2 4 (some (NU p2.toNatClampNeg))))) else (some (-1000000))))))
abbrev rX8_number_c : Room := { frames := 1, cells := 0, slots := 0, locals := 22 }
set_option maxHeartbeats 40000000 in
set_option maxRecDepth 100000 in
theorem kX8_number_c (l : Launch) (G : GT) (h0 qb f0 o0 an d0 qs m0 c0 s0 b0 al ag aw : Nat) (bc_ : Int32) (RB : Nat → Option Nat) (fl : Int32) (mo : Int32) (dg : Int32) (NU : Nat → Int32) (p1 : Int32) (p2 : Int32) (hq : RB p1.toNatClampNeg = some f0) (res : Int32) (hF : fX8_number_c bc_ NU p1 p2 = some res) : Met l yX8_number wsX8_number rX8_number_c (va_Pc [.ref h0, .int p1, .int p2] (pR G (wXG G h0 qb f0 o0 an d0 qs m0 c0 s0 b0 al ag aw bc_ RB fl mo dg NU))) (vp_Si (fun r => r = res)) 0 0 (fun _ => False) := by
  refine Met.ofW (cc := cX8_number) (maxL := 4) (ret := (some .int)) (by decide) rfl ?_
  intro p e s m args below meth c s₁ B hml hv
  obtain ⟨rfl, hP, hK⟩ := hv
  have hx := B.exec
  have hb := B.bytes
  have hr := B.returns
  have hts := atoms_spec (ws := wsX8_number) B.pre
  have hown : s.vm.findClass RX8 = some m.cls := findClass_of_methodNamed B.named
  have hlocks := B.notSynchronized
  have hcn150 := hts (.constant RX8 150 (-1000000)) (by decide +kernel)
  have hin2 : ∀ w ∈ u_ws RX2 TX2 2, w ∈ wsX8_number := by decide +kernel
  have hfl151 := hts (.fieldLink RX8 151 "SwellBodies$Growth" "numbers" "[I") (by decide +kernel)
  have hl := lv_entry ([.ref h0, .int p1, .int p2]) (n := 4) (Nat.le_of_ble_eq_true rfl)
  rw [lg_entry_eq]
  generalize (lg_sl ([.ref h0, .int p1, .int p2]) ++ List.replicate (4 - (lg_sl ([.ref h0, .int p1, .int p2])).length) Slot.unset).toArray = ls at hl ⊢
  have hl : lv_has ls 4 [(0, .ref h0), (1, .int p1), (2, .int p2)] := hl
  unfold fX8_number_c at hF
  refine lv_aload_n hx hb dX8_number_0 rfl (lv_at hl 0 rfl) ?_
  refine lv_iload_n hx hb dX8_number_1 rfl (lv_at hl 1 rfl) ?_
  obtain ⟨v_1, hv_1, hF⟩ := bd_s hF
  refine ro_qe (va_runV (As := [.int p1]) (rest := []) ⟨hx, hb, hml, hown, hts⟩ (kX8_find_F l G h0 qb d0 qs m0 f0 bc_ RB p1 (by assumption) v_1 hv_1) (cwV 1 hts gX8_number_X8_find rfl rfl rfl (by decide +kernel) ⟨Nat.le_of_ble_eq_true rfl, Nat.le_of_ble_eq_true rfl⟩) (pvR (q0 := 0) 8 hK (hP.sub (ws' := (wXB G h0 qb d0 qs m0 m0 bc_ RB)) [0, 1] rfl) rfl rfl) rfl rfl hl.1 rfl (lv_room (Nat.le_of_ble_eq_true rfl)) dX8_number_2 ⟨Nat.le_of_ble_eq_true rfl, Nat.le_of_ble_eq_true rfl⟩) ?_
  refine lv_astore_n (lv' := [(3, .ref f0), (0, .ref h0), (1, .int p1), (2, .int p2)]) hx hb dX8_number_5 rfl hl (by decide) rfl (fun ls hl => ?_)
  refine lv_aload_n hx hb dX8_number_6 rfl (lv_at hl 0 rfl) ?_
  refine lv_ifnull hx hb dX8_number_7 ?_
  refine lv_iload_n hx hb dX8_number_10 rfl (lv_at hl 3 rfl) ?_
  refine lv_if_lt (tgt := 19) hx hb dX8_number_11 (by decide) (fun c_2 => ?_) (fun c_2 => ?_)
  · replace hF := it_p c_2 hF
    refine lv_ldc (v := (-1000000)) hx hb hown hcn150 dX8_number_19 ?_
    exact W.iret (v := (-1000000)) hx hb hr  (fun t ht hW => ⟨(-1000000), rfl, (so_e hF), ht⟩) (fun q h => absurd h List.not_mem_nil) dX8_number_21
  · replace hF := it_n c_2 hF
    refine lv_iload_n hx hb dX8_number_14 rfl (lv_at hl 3 rfl) ?_
    refine lv_iconst (v := 3) hx hb dX8_number_15 (by decide) ?_
    refine lv_icmp_le (tgt := 22) hx hb dX8_number_16 (by decide) (fun c_3 => ?_) (fun c_3 => ?_)
    · replace hF := it_p c_3 hF
      refine lv_aload_n hx hb dX8_number_22 rfl (lv_at hl 0 rfl) ?_
      obtain ⟨v_4, hv_4, hF⟩ := bd_s hF
      refine ro_qe (va_runV (As := []) (rest := []) ⟨hx, hb, hml, hown, hts⟩ (kX0_growth_c l G f0 c0 s0 b0 al ag aw o0 fl mo v_4 hv_4) (cwV 0 hts gX8_number_X0_growth rfl rfl rfl (by decide +kernel) ⟨Nat.le_of_ble_eq_true rfl, Nat.le_of_ble_eq_true rfl⟩) (pvR (q0 := 0) 0 hK (hP.sub (ws' := (wBGc G f0 c0 s0 b0 al ag aw o0 fl mo)) [2] rfl) rfl rfl) rfl rfl hl.1 rfl (lv_room (Nat.le_of_ble_eq_true rfl)) dX8_number_23 ⟨Nat.le_of_ble_eq_true rfl, Nat.le_of_ble_eq_true rfl⟩) ?_
      refine va_get (ci := 2) (v := .ref an) (C := RX2) (T := TX2) (N := 2) hx hb hts hin2 hown hK hP 3 rfl rfl 0 (by decide) hfl151 (fun _ h9 => h9) rfl dX8_number_26 ?_
      refine lv_iload_n hx hb dX8_number_29 rfl (lv_at hl 3 rfl) ?_
      obtain ⟨hi_5, hF⟩ := gd_in_s hF
      refine va_iald hx hb hK hP 4 0 rfl rfl hi_5 dX8_number_30 ?_
      exact W.iret (v := NU p2.toNatClampNeg) hx hb hr  (fun t ht hW => ⟨NU p2.toNatClampNeg, rfl, (so_e hF), ht⟩) (fun q h => absurd h List.not_mem_nil) dX8_number_31
    · replace hF := it_n c_3 hF
      refine lv_ldc (v := (-1000000)) hx hb hown hcn150 dX8_number_19 ?_
      exact W.iret (v := (-1000000)) hx hb hr  (fun t ht hW => ⟨(-1000000), rfl, (so_e hF), ht⟩) (fun q h => absurd h List.not_mem_nil) dX8_number_21
def fX8_rule_N (bc_ : Int32) (p1 : Int32) (p2 : Int32) : Option (Int64) :=
  (bd (fX8_find_N bc_ p1) (fun v_1 => (some (-1))))
abbrev rX8_rule_N : Room := { frames := 1, cells := 0, slots := 0, locals := 21 }
set_option maxHeartbeats 40000000 in
set_option maxRecDepth 100000 in
theorem kX8_rule_N (l : Launch) (G : GT) (h0 qb d0 qs m0 : Nat) (bc_ : Int32) (RB : Nat → Option Nat) (p1 : Int32) (p2 : Int32) (res : Int64) (hF : fX8_rule_N bc_ p1 p2 = some res) : Met l yX8_rule wsX8_rule rX8_rule_N (va_Pc [.ref h0, .int p1, .int p2] (pR G (wXBn G h0 qb d0 qs m0 bc_ RB))) (vp_Sl (fun r => r = res)) 0 0 (fun _ => False) := by
  refine Met.ofW (cc := cX8_rule) (maxL := 4) (ret := (some .long)) (by decide) rfl ?_
  intro p e s m args below meth c s₁ B hml hv
  obtain ⟨rfl, hP, hK⟩ := hv
  have hx := B.exec
  have hb := B.bytes
  have hr := B.returns
  have hts := atoms_spec (ws := wsX8_rule) B.pre
  have hown : s.vm.findClass RX8 = some m.cls := findClass_of_methodNamed B.named
  have hlocks := B.notSynchronized
  have hcn155 := hts (.constantLong RX8 155 (-1)) (by decide +kernel)
  have hl := lv_entry ([.ref h0, .int p1, .int p2]) (n := 4) (Nat.le_of_ble_eq_true rfl)
  rw [lg_entry_eq]
  generalize (lg_sl ([.ref h0, .int p1, .int p2]) ++ List.replicate (4 - (lg_sl ([.ref h0, .int p1, .int p2])).length) Slot.unset).toArray = ls at hl ⊢
  have hl : lv_has ls 4 [(0, .ref h0), (1, .int p1), (2, .int p2)] := hl
  unfold fX8_rule_N at hF
  refine lv_aload_n hx hb dX8_rule_0 rfl (lv_at hl 0 rfl) ?_
  refine lv_iload_n hx hb dX8_rule_1 rfl (lv_at hl 1 rfl) ?_
  obtain ⟨v_1, hv_1, hF⟩ := bd_s hF
  refine ro_qe (va_runV (As := [.int p1]) (rest := []) ⟨hx, hb, hml, hown, hts⟩ (kX8_find_N l G h0 qb d0 qs m0 bc_ RB p1 v_1 hv_1) (cwV 1 hts gX8_rule_X8_find rfl rfl rfl (by decide +kernel) ⟨Nat.le_of_ble_eq_true rfl, Nat.le_of_ble_eq_true rfl⟩) (pvR (q0 := 0) 8 hK (hP.sub (ws' := (wXBn G h0 qb d0 qs m0 bc_ RB)) [0, 1] rfl) rfl rfl) rfl rfl hl.1 rfl (lv_room (Nat.le_of_ble_eq_true rfl)) dX8_rule_2 ⟨Nat.le_of_ble_eq_true rfl, Nat.le_of_ble_eq_true rfl⟩) ?_
  refine lv_astore_nN (lv' := [(3, .null), (0, .ref h0), (1, .int p1), (2, .int p2)]) hx hb dX8_rule_5 rfl hl (by decide) rfl (fun ls hl => ?_)
  refine lv_aload_nN hx hb dX8_rule_6 rfl (lv_at hl 0 rfl) ?_
  refine lv_ifnullN (tgt := 21) hx hb dX8_rule_7 (by decide) ?_
  refine lv_ldc2 (v := (-1)) hx hb hown hcn155 dX8_rule_21 ?_
  exact W.lret (v := (-1)) hx hb hr  (fun t ht hW => ⟨(-1), rfl, (so_e hF), ht⟩) (fun q h => absurd h List.not_mem_nil) dX8_rule_24
def fX8_rule_c (bc_ : Int32) (NU : Nat → Int32) (p1 : Int32) (p2 : Int32) : Option (Int64) :=
  (bd (fX8_find_F bc_ p1) (fun v_1 => (bd (fX8_isAmong p2.toInt64 1000) (fun v_2 => (if v_2 = 0 then (some (-1)) else (bd (fX0_growth_c) (fun v_5 => (bd (fX2_at NU p2.toInt64) (fun v_6 => (some v_6))))))))))
abbrev rX8_rule_c : Room := { frames := 1, cells := 0, slots := 0, locals := 22 }
set_option maxHeartbeats 40000000 in
set_option maxRecDepth 100000 in
theorem kX8_rule_c (l : Launch) (G : GT) (h0 qb f0 o0 an d0 qs m0 c0 s0 b0 al ag aw : Nat) (bc_ : Int32) (RB : Nat → Option Nat) (fl : Int32) (mo : Int32) (dg : Int32) (NU : Nat → Int32) (p1 : Int32) (p2 : Int32) (hq : RB p1.toNatClampNeg = some f0) (res : Int64) (hF : fX8_rule_c bc_ NU p1 p2 = some res) : Met l yX8_rule wsX8_rule rX8_rule_c (va_Pc [.ref h0, .int p1, .int p2] (pR G (wXG G h0 qb f0 o0 an d0 qs m0 c0 s0 b0 al ag aw bc_ RB fl mo dg NU))) (vp_Sl (fun r => r = res)) 0 0 (fun _ => False) := by
  refine Met.ofW (cc := cX8_rule) (maxL := 4) (ret := (some .long)) (by decide) rfl ?_
  intro p e s m args below meth c s₁ B hml hv
  obtain ⟨rfl, hP, hK⟩ := hv
  have hx := B.exec
  have hb := B.bytes
  have hr := B.returns
  have hts := atoms_spec (ws := wsX8_rule) B.pre
  have hown : s.vm.findClass RX8 = some m.cls := findClass_of_methodNamed B.named
  have hlocks := B.notSynchronized
  have hcn155 := hts (.constantLong RX8 155 (-1)) (by decide +kernel)
  have hl := lv_entry ([.ref h0, .int p1, .int p2]) (n := 4) (Nat.le_of_ble_eq_true rfl)
  rw [lg_entry_eq]
  generalize (lg_sl ([.ref h0, .int p1, .int p2]) ++ List.replicate (4 - (lg_sl ([.ref h0, .int p1, .int p2])).length) Slot.unset).toArray = ls at hl ⊢
  have hl : lv_has ls 4 [(0, .ref h0), (1, .int p1), (2, .int p2)] := hl
  unfold fX8_rule_c at hF
  refine lv_aload_n hx hb dX8_rule_0 rfl (lv_at hl 0 rfl) ?_
  refine lv_iload_n hx hb dX8_rule_1 rfl (lv_at hl 1 rfl) ?_
  obtain ⟨v_1, hv_1, hF⟩ := bd_s hF
  refine ro_qe (va_runV (As := [.int p1]) (rest := []) ⟨hx, hb, hml, hown, hts⟩ (kX8_find_F l G h0 qb d0 qs m0 f0 bc_ RB p1 (by assumption) v_1 hv_1) (cwV 1 hts gX8_rule_X8_find rfl rfl rfl (by decide +kernel) ⟨Nat.le_of_ble_eq_true rfl, Nat.le_of_ble_eq_true rfl⟩) (pvR (q0 := 0) 8 hK (hP.sub (ws' := (wXB G h0 qb d0 qs m0 m0 bc_ RB)) [0, 1] rfl) rfl rfl) rfl rfl hl.1 rfl (lv_room (Nat.le_of_ble_eq_true rfl)) dX8_rule_2 ⟨Nat.le_of_ble_eq_true rfl, Nat.le_of_ble_eq_true rfl⟩) ?_
  refine lv_astore_n (lv' := [(3, .ref f0), (0, .ref h0), (1, .int p1), (2, .int p2)]) hx hb dX8_rule_5 rfl hl (by decide) rfl (fun ls hl => ?_)
  refine lv_aload_n hx hb dX8_rule_6 rfl (lv_at hl 0 rfl) ?_
  refine lv_ifnull hx hb dX8_rule_7 ?_
  refine lv_iload_n hx hb dX8_rule_10 rfl (lv_at hl 3 rfl) ?_
  refine lv_i2l hx hb dX8_rule_11 rfl ?_
  refine lv_sipush (v := 1000) hx hb dX8_rule_12 (by decide) ?_
  obtain ⟨v_2, hv_2, hF⟩ := bd_s hF
  refine ro_ze (va_runS (As := [.long p2.toInt64, .int 1000]) (rest := []) ⟨hx, hb, hml, hown, hts⟩ (kX8_isAmong l G p2.toInt64 1000 v_2 hv_2) (va_cwS 2 hts gX8_rule_X8_isAmong rfl rfl rfl (by decide +kernel) ⟨Nat.le_of_ble_eq_true rfl, Nat.le_of_ble_eq_true rfl⟩) (psR hK (hP.sub (ws' := ([] : va_W)) [] rfl)) rfl rfl hl.1 rfl (lv_room (Nat.le_of_ble_eq_true rfl)) dX8_rule_15 ⟨Nat.le_of_ble_eq_true rfl, Nat.le_of_ble_eq_true rfl⟩) (fun hb_3 => ?_)
  refine lv_if_ne (tgt := 25) hx hb dX8_rule_18 (by decide) (fun c_4 => ?_) (fun c_4 => ?_)
  · replace hF := it_n c_4 hF
    refine lv_aload_n hx hb dX8_rule_25 rfl (lv_at hl 0 rfl) ?_
    obtain ⟨v_5, hv_5, hF⟩ := bd_s hF
    refine ro_qe (va_runV (As := []) (rest := []) ⟨hx, hb, hml, hown, hts⟩ (kX0_growth_c l G f0 c0 s0 b0 al ag aw o0 fl mo v_5 hv_5) (cwV 0 hts gX8_rule_X0_growth rfl rfl rfl (by decide +kernel) ⟨Nat.le_of_ble_eq_true rfl, Nat.le_of_ble_eq_true rfl⟩) (pvR (q0 := 0) 0 hK (hP.sub (ws' := (wBGc G f0 c0 s0 b0 al ag aw o0 fl mo)) [2] rfl) rfl rfl) rfl rfl hl.1 rfl (lv_room (Nat.le_of_ble_eq_true rfl)) dX8_rule_26 ⟨Nat.le_of_ble_eq_true rfl, Nat.le_of_ble_eq_true rfl⟩) ?_
    refine lv_iload_n hx hb dX8_rule_29 rfl (lv_at hl 3 rfl) ?_
    refine lv_i2l hx hb dX8_rule_30 rfl ?_
    obtain ⟨v_6, hv_6, hF⟩ := bd_s hF
    refine ro_le (va_runV (As := [.long p2.toInt64]) (rest := []) ⟨hx, hb, hml, hown, hts⟩ (kX2_at l G o0 an dg NU p2.toInt64 v_6 hv_6) (cwV 1 hts gX8_rule_X2_at rfl rfl rfl (by decide +kernel) ⟨Nat.le_of_ble_eq_true rfl, Nat.le_of_ble_eq_true rfl⟩) (pvR (q0 := 0) 2 hK (hP.sub (ws' := (wGro G o0 an dg NU)) [3, 4] rfl) rfl rfl) rfl rfl hl.1 rfl (lv_room (Nat.le_of_ble_eq_true rfl)) dX8_rule_31 ⟨Nat.le_of_ble_eq_true rfl, Nat.le_of_ble_eq_true rfl⟩) ?_
    exact W.lret (v := v_6) hx hb hr  (fun t ht hW => ⟨v_6, rfl, (so_e hF), ht⟩) (fun q h => absurd h List.not_mem_nil) dX8_rule_34
  · replace hF := it_p c_4 hF
    refine lv_ldc2 (v := (-1)) hx hb hown hcn155 dX8_rule_21 ?_
    exact W.lret (v := (-1)) hx hb hr  (fun t ht hW => ⟨(-1), rfl, (so_e hF), ht⟩) (fun q h => absurd h List.not_mem_nil) dX8_rule_24
def fX8_stairs_N (bc_ : Int32) (p1 : Int32) (p2 : Int32) : Option (Int32) :=
  (bd (fX8_find_N bc_ p1) (fun v_1 => (some (-1))))
abbrev rX8_stairs_N : Room := { frames := 1, cells := 0, slots := 0, locals := 21 }
set_option maxHeartbeats 40000000 in
set_option maxRecDepth 100000 in
theorem kX8_stairs_N (l : Launch) (G : GT) (h0 qb d0 qs m0 : Nat) (bc_ : Int32) (RB : Nat → Option Nat) (p1 : Int32) (p2 : Int32) (res : Int32) (hF : fX8_stairs_N bc_ p1 p2 = some res) : Met l yX8_stairs wsX8_stairs rX8_stairs_N (va_Pc [.ref h0, .int p1, .int p2] (pR G (wXBn G h0 qb d0 qs m0 bc_ RB))) (vp_Si (fun r => r = res)) 0 0 (fun _ => False) := by
  refine Met.ofW (cc := cX8_stairs) (maxL := 4) (ret := (some .int)) (by decide) rfl ?_
  intro p e s m args below meth c s₁ B hml hv
  obtain ⟨rfl, hP, hK⟩ := hv
  have hx := B.exec
  have hb := B.bytes
  have hr := B.returns
  have hts := atoms_spec (ws := wsX8_stairs) B.pre
  have hown : s.vm.findClass RX8 = some m.cls := findClass_of_methodNamed B.named
  have hlocks := B.notSynchronized
  have hl := lv_entry ([.ref h0, .int p1, .int p2]) (n := 4) (Nat.le_of_ble_eq_true rfl)
  rw [lg_entry_eq]
  generalize (lg_sl ([.ref h0, .int p1, .int p2]) ++ List.replicate (4 - (lg_sl ([.ref h0, .int p1, .int p2])).length) Slot.unset).toArray = ls at hl ⊢
  have hl : lv_has ls 4 [(0, .ref h0), (1, .int p1), (2, .int p2)] := hl
  unfold fX8_stairs_N at hF
  refine lv_aload_n hx hb dX8_stairs_0 rfl (lv_at hl 0 rfl) ?_
  refine lv_iload_n hx hb dX8_stairs_1 rfl (lv_at hl 1 rfl) ?_
  obtain ⟨v_1, hv_1, hF⟩ := bd_s hF
  refine ro_qe (va_runV (As := [.int p1]) (rest := []) ⟨hx, hb, hml, hown, hts⟩ (kX8_find_N l G h0 qb d0 qs m0 bc_ RB p1 v_1 hv_1) (cwV 1 hts gX8_stairs_X8_find rfl rfl rfl (by decide +kernel) ⟨Nat.le_of_ble_eq_true rfl, Nat.le_of_ble_eq_true rfl⟩) (pvR (q0 := 0) 8 hK (hP.sub (ws' := (wXBn G h0 qb d0 qs m0 bc_ RB)) [0, 1] rfl) rfl rfl) rfl rfl hl.1 rfl (lv_room (Nat.le_of_ble_eq_true rfl)) dX8_stairs_2 ⟨Nat.le_of_ble_eq_true rfl, Nat.le_of_ble_eq_true rfl⟩) ?_
  refine lv_astore_nN (lv' := [(3, .null), (0, .ref h0), (1, .int p1), (2, .int p2)]) hx hb dX8_stairs_5 rfl hl (by decide) rfl (fun ls hl => ?_)
  refine lv_aload_nN hx hb dX8_stairs_6 rfl (lv_at hl 0 rfl) ?_
  refine lv_ifnullN (tgt := 22) hx hb dX8_stairs_7 (by decide) ?_
  refine lv_iconst (v := (-1)) hx hb dX8_stairs_22 (by decide) ?_
  exact W.iret (v := (-1)) hx hb hr  (fun t ht hW => ⟨(-1), rfl, (so_e hF), ht⟩) (fun q h => absurd h List.not_mem_nil) dX8_stairs_23
def fX8_stairs_c (bc_ : Int32) (fl : Int32) (dg : Int32) (NU : Nat → Int32) (p1 : Int32) (p2 : Int32) : Option (Int32) :=
  (bd (fX8_find_F bc_ p1) (fun v_1 => (if p2 < 0 then (some (-1)) else (if p2 ≤ fl then (bd (fX0_growth_c) (fun v_4 => (bd (fX2_stair dg NU p2) (fun v_5 => (some v_5))))) else (some (-1))))))
abbrev rX8_stairs_c : Room := { frames := 2, cells := 0, slots := 0, locals := 48 }
set_option maxHeartbeats 40000000 in
set_option maxRecDepth 100000 in
theorem kX8_stairs_c (l : Launch) (G : GT) (h0 qb f0 o0 an d0 qs m0 c0 s0 b0 al ag aw : Nat) (bc_ : Int32) (RB : Nat → Option Nat) (fl : Int32) (mo : Int32) (dg : Int32) (NU : Nat → Int32) (p1 : Int32) (p2 : Int32) (hq : RB p1.toNatClampNeg = some f0) (res : Int32) (hF : fX8_stairs_c bc_ fl dg NU p1 p2 = some res) : Met l yX8_stairs wsX8_stairs rX8_stairs_c (va_Pc [.ref h0, .int p1, .int p2] (pR G (wXG G h0 qb f0 o0 an d0 qs m0 c0 s0 b0 al ag aw bc_ RB fl mo dg NU))) (vp_Si (fun r => r = res)) 0 0 (fun _ => False) := by
  refine Met.ofW (cc := cX8_stairs) (maxL := 4) (ret := (some .int)) (by decide) rfl ?_
  intro p e s m args below meth c s₁ B hml hv
  obtain ⟨rfl, hP, hK⟩ := hv
  have hx := B.exec
  have hb := B.bytes
  have hr := B.returns
  have hts := atoms_spec (ws := wsX8_stairs) B.pre
  have hown : s.vm.findClass RX8 = some m.cls := findClass_of_methodNamed B.named
  have hlocks := B.notSynchronized
  have hin0 : ∀ w ∈ u_ws RX0 TX0 9, w ∈ wsX8_stairs := by decide +kernel
  have hfl97 := hts (.fieldLink RX8 97 "SwellBodies$Body" "fills" "I") (by decide +kernel)
  have hl := lv_entry ([.ref h0, .int p1, .int p2]) (n := 4) (Nat.le_of_ble_eq_true rfl)
  rw [lg_entry_eq]
  generalize (lg_sl ([.ref h0, .int p1, .int p2]) ++ List.replicate (4 - (lg_sl ([.ref h0, .int p1, .int p2])).length) Slot.unset).toArray = ls at hl ⊢
  have hl : lv_has ls 4 [(0, .ref h0), (1, .int p1), (2, .int p2)] := hl
  unfold fX8_stairs_c at hF
  refine lv_aload_n hx hb dX8_stairs_0 rfl (lv_at hl 0 rfl) ?_
  refine lv_iload_n hx hb dX8_stairs_1 rfl (lv_at hl 1 rfl) ?_
  obtain ⟨v_1, hv_1, hF⟩ := bd_s hF
  refine ro_qe (va_runV (As := [.int p1]) (rest := []) ⟨hx, hb, hml, hown, hts⟩ (kX8_find_F l G h0 qb d0 qs m0 f0 bc_ RB p1 (by assumption) v_1 hv_1) (cwV 1 hts gX8_stairs_X8_find rfl rfl rfl (by decide +kernel) ⟨Nat.le_of_ble_eq_true rfl, Nat.le_of_ble_eq_true rfl⟩) (pvR (q0 := 0) 8 hK (hP.sub (ws' := (wXB G h0 qb d0 qs m0 m0 bc_ RB)) [0, 1] rfl) rfl rfl) rfl rfl hl.1 rfl (lv_room (Nat.le_of_ble_eq_true rfl)) dX8_stairs_2 ⟨Nat.le_of_ble_eq_true rfl, Nat.le_of_ble_eq_true rfl⟩) ?_
  refine lv_astore_n (lv' := [(3, .ref f0), (0, .ref h0), (1, .int p1), (2, .int p2)]) hx hb dX8_stairs_5 rfl hl (by decide) rfl (fun ls hl => ?_)
  refine lv_aload_n hx hb dX8_stairs_6 rfl (lv_at hl 0 rfl) ?_
  refine lv_ifnull hx hb dX8_stairs_7 ?_
  refine lv_iload_n hx hb dX8_stairs_10 rfl (lv_at hl 3 rfl) ?_
  refine lv_if_lt (tgt := 22) hx hb dX8_stairs_11 (by decide) (fun c_2 => ?_) (fun c_2 => ?_)
  · replace hF := it_p c_2 hF
    refine lv_iconst (v := (-1)) hx hb dX8_stairs_22 (by decide) ?_
    exact W.iret (v := (-1)) hx hb hr  (fun t ht hW => ⟨(-1), rfl, (so_e hF), ht⟩) (fun q h => absurd h List.not_mem_nil) dX8_stairs_23
  · replace hF := it_n c_2 hF
    refine lv_iload_n hx hb dX8_stairs_14 rfl (lv_at hl 3 rfl) ?_
    refine lv_aload_n hx hb dX8_stairs_15 rfl (lv_at hl 0 rfl) ?_
    refine va_get (ci := 0) (v := .int fl) (C := RX0) (T := TX0) (N := 9) hx hb hts hin0 hown hK hP 2 rfl rfl 0 (by decide) hfl97 (fun _ h9 => h9) rfl dX8_stairs_16 ?_
    refine lv_icmp_le (tgt := 24) hx hb dX8_stairs_19 (by decide) (fun c_3 => ?_) (fun c_3 => ?_)
    · replace hF := it_p c_3 hF
      refine lv_aload_n hx hb dX8_stairs_24 rfl (lv_at hl 0 rfl) ?_
      obtain ⟨v_4, hv_4, hF⟩ := bd_s hF
      refine ro_qe (va_runV (As := []) (rest := []) ⟨hx, hb, hml, hown, hts⟩ (kX0_growth_c l G f0 c0 s0 b0 al ag aw o0 fl mo v_4 hv_4) (cwV 0 hts gX8_stairs_X0_growth rfl rfl rfl (by decide +kernel) ⟨Nat.le_of_ble_eq_true rfl, Nat.le_of_ble_eq_true rfl⟩) (pvR (q0 := 0) 0 hK (hP.sub (ws' := (wBGc G f0 c0 s0 b0 al ag aw o0 fl mo)) [2] rfl) rfl rfl) rfl rfl hl.1 rfl (lv_room (Nat.le_of_ble_eq_true rfl)) dX8_stairs_25 ⟨Nat.le_of_ble_eq_true rfl, Nat.le_of_ble_eq_true rfl⟩) ?_
      refine lv_iload_n hx hb dX8_stairs_28 rfl (lv_at hl 3 rfl) ?_
      obtain ⟨v_5, hv_5, hF⟩ := bd_s hF
      refine ro_ie (va_runV (As := [.int p2]) (rest := []) ⟨hx, hb, hml, hown, hts⟩ (kX2_stair l G o0 an dg NU p2 v_5 hv_5) (cwV 1 hts gX8_stairs_X2_stair rfl rfl rfl (by decide +kernel) ⟨Nat.le_of_ble_eq_true rfl, Nat.le_of_ble_eq_true rfl⟩) (pvR (q0 := 0) 2 hK (hP.sub (ws' := (wGro G o0 an dg NU)) [3, 4] rfl) rfl rfl) rfl rfl hl.1 rfl (lv_room (Nat.le_of_ble_eq_true rfl)) dX8_stairs_29 ⟨Nat.le_of_ble_eq_true rfl, Nat.le_of_ble_eq_true rfl⟩) ?_
      exact W.iret (v := v_5) hx hb hr  (fun t ht hW => ⟨v_5, rfl, (so_e hF), ht⟩) (fun q h => absurd h List.not_mem_nil) dX8_stairs_32
    · replace hF := it_n c_3 hF
      refine lv_iconst (v := (-1)) hx hb dX8_stairs_22 (by decide) ?_
      exact W.iret (v := (-1)) hx hb hr  (fun t ht hW => ⟨(-1), rfl, (so_e hF), ht⟩) (fun q h => absurd h List.not_mem_nil) dX8_stairs_23
