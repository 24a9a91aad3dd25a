abbrev wMod (G : GT) (h0 qDR qLA qLE qCE qFI qCO qCR qSI qSR qMO qBO qPX qPY qPZ qSX : Nat) (dr : Int32) (bo : Int32) (po : Int32) (sx : Int32) (sy : Int32) (sw : Int32) (tx : Int32) (ty : Int32) (tz : Int32) (DR : Nat → Int32) (LA : Nat → Int32) (LE : Nat → Int32) (CE : Nat → Int64) (FI : Nat → Int32) (CO : Nat → Int32) (CR : Nat → Int32) (SI : Nat → Int32) (SR : Nat → Int32) (MO : Nat → Int32) (BO : Nat → Int32) (PX : Nat → Int32) (PY : Nat → Int32) (PZ : Nat → Int32) (SX : Nat → Int32) : va_W := [(h0, .inr (9, [.int dr, .ref qDR, .ref qLA, .ref qLE, .ref qCE, .int bo, .ref qFI, .ref qCO, .ref qCR, .ref qSI, .ref qSR, .ref qMO, .ref qBO, .int po, .ref qPX, .ref qPY, .ref qPZ, .int sx, .int sy, .int sw, .ref qSX, .int tx, .int ty, .int tz])), (qDR, .inl (gI G, 36, .inl DR)), (qLA, .inl (gI G, 4, .inl LA)), (qLE, .inl (gI G, 4, .inl LE)), (qCE, .inl (gJ G, 144, .inr (.inl CE))), (qFI, .inl (gI G, 8, .inl FI)), (qCO, .inl (gI G, 8, .inl CO)), (qCR, .inl (gI G, 960, .inl CR)), (qSI, .inl (gI G, 8, .inl SI)), (qSR, .inl (gI G, 2880, .inl SR)), (qMO, .inl (gI G, 8, .inl MO)), (qBO, .inl (gI G, 32, .inl BO)), (qPX, .inl (gI G, 140, .inl PX)), (qPY, .inl (gI G, 140, .inl PY)), (qPZ, .inl (gI G, 140, .inl PZ)), (qSX, .inl (gI G, 4, .inl SX))]
def fX9_in (p1 : Int64) (p2 : Int64) (p3 : Int64) : Option (Int32) :=
  (if lg_cmp p1 p2 < 0 then (some 0) else (if 0 < lg_cmp p1 p3 then (some 0) else (some 1)))
abbrev rX9_in : Room := { frames := 0, cells := 0, slots := 0, locals := 0 }
set_option maxHeartbeats 40000000 in
set_option maxRecDepth 100000 in
theorem kX9_in (l : Launch) (G : GT) (p1 : Int64) (p2 : Int64) (p3 : Int64) (res : Int32) (hF : fX9_in p1 p2 p3 = some res) : Met l yX9_in wsX9_in rX9_in (va_Pc [.long p1, .long p2, .long p3] (pR G ([] : va_W))) (vp_Si (fun r => r = res ∧ (r = 0 ∨ r = 1))) 0 0 (fun _ => False) := by
  refine Met.ofW (cc := cX9_in) (maxL := 6) (ret := (some .boolean)) (by decide) rfl ?_
  intro p e s m args below meth c s₁ B hml hv
  obtain ⟨rfl, hP, hK⟩ := hv
  have hx := B.exec
  have hb := B.bytes
  have hr := B.returns
  have hts := atoms_spec (ws := wsX9_in) B.pre
  have hown : s.vm.findClass RX9 = some m.cls := findClass_of_methodNamed B.named
  have hlocks := B.notSynchronized
  have hl := lv_entry ([.long p1, .long p2, .long p3]) (n := 6) (Nat.le_of_ble_eq_true rfl)
  rw [lg_entry_eq]
  generalize (lg_sl ([.long p1, .long p2, .long p3]) ++ List.replicate (6 - (lg_sl ([.long p1, .long p2, .long p3])).length) Slot.unset).toArray = ls at hl ⊢
  have hl : lv_has ls 6 [(0, .long p1), (2, .long p2), (4, .long p3)] := hl
  unfold fX9_in at hF
  refine lv_lload_n hx hb dX9_in_0 rfl (lv_at hl 0 rfl) ?_
  refine lv_lload_n hx hb dX9_in_1 rfl (lv_at hl 1 rfl) ?_
  refine W.lcmp hx hb dX9_in_2 ?_
  refine lv_if_lt (tgt := 17) hx hb dX9_in_3 (by decide) (fun c_1 => ?_) (fun c_1 => ?_)
  · replace hF := it_p c_1 hF
    refine lv_iconst (v := 0) hx hb dX9_in_17 (by decide) ?_
    exact W.zret (v := 0) hx hb hr (by first | rfl | (rcases hF with h | h <;> rw [h] <;> rfl)) (fun t ht hW => ⟨0, rfl, ⟨so_e hF, (by first | exact Or.inl rfl | exact Or.inr rfl | assumption)⟩, ht⟩) (fun q h => absurd h List.not_mem_nil) dX9_in_18
  · replace hF := it_n c_1 hF
    refine lv_lload_n hx hb dX9_in_6 rfl (lv_at hl 0 rfl) ?_
    refine lv_lload hx hb dX9_in_7 (lv_at hl 2 rfl) ?_
    refine W.lcmp hx hb dX9_in_9 ?_
    refine lv_if_gt (tgt := 17) hx hb dX9_in_10 (by decide) (fun c_2 => ?_) (fun c_2 => ?_)
    · replace hF := it_p c_2 hF
      refine lv_iconst (v := 0) hx hb dX9_in_17 (by decide) ?_
      exact W.zret (v := 0) hx hb hr (by first | rfl | (rcases hF with h | h <;> rw [h] <;> rfl)) (fun t ht hW => ⟨0, rfl, ⟨so_e hF, (by first | exact Or.inl rfl | exact Or.inr rfl | assumption)⟩, ht⟩) (fun q h => absurd h List.not_mem_nil) dX9_in_18
    · replace hF := it_n c_2 hF
      refine lv_iconst (v := 1) hx hb dX9_in_13 (by decide) ?_
      refine lv_goto (tgt := 18) hx hb dX9_in_14 (by decide) ?_
      exact W.zret (v := 1) hx hb hr (by first | rfl | (rcases hF with h | h <;> rw [h] <;> rfl)) (fun t ht hW => ⟨1, rfl, ⟨so_e hF, (by first | exact Or.inl rfl | exact Or.inr rfl | assumption)⟩, ht⟩) (fun q h => absurd h List.not_mem_nil) dX9_in_18
def fX9_put (dr : Int32) (DR : Nat → Int32) (p1 : Int32) (p2 : Int32) (p3 : Int32) : Option (Int32 × (Nat → Int32)) :=
  (gd_in (3 * dr) 36 (gd_in ((3 * dr) + 1) 36 (gd_in ((3 * dr) + 2) 36 (some (dr + 1, upd (upd (upd DR (3 * dr).toNatClampNeg p1) ((3 * dr) + 1).toNatClampNeg p2) ((3 * dr) + 2).toNatClampNeg p3)))))
abbrev rX9_put : Room := { frames := 0, cells := 0, slots := 0, locals := 0 }
set_option maxHeartbeats 40000000 in
set_option maxRecDepth 100000 in
theorem kX9_put (l : Launch) (G : GT) (h0 qDR qLA qLE qCE qFI qCO qCR qSI qSR qMO qBO qPX qPY qPZ qSX : Nat) (sz : Nat) (dr : Int32) (bo : Int32) (po : Int32) (sx : Int32) (sy : Int32) (sw : Int32) (tx : Int32) (ty : Int32) (tz : Int32) (DR : Nat → Int32) (LA : Nat → Int32) (LE : Nat → Int32) (CE : Nat → Int64) (FI : Nat → Int32) (CO : Nat → Int32) (CR : Nat → Int32) (SI : Nat → Int32) (SR : Nat → Int32) (MO : Nat → Int32) (BO : Nat → Int32) (PX : Nat → Int32) (PY : Nat → Int32) (PZ : Nat → Int32) (SX : Nat → Int32) (p1 : Int32) (p2 : Int32) (p3 : Int32) (res : Int32 × (Nat → Int32)) (hF : fX9_put dr DR p1 p2 p3 = some res) : Met l yX9_put wsX9_put rX9_put (va_Pc [.ref h0, .int p1, .int p2, .int p3] (pW G sz (wMod G h0 qDR qLA qLE qCE qFI qCO qCR qSI qSR qMO qBO qPX qPY qPZ qSX dr bo po sx sy sw tx ty tz DR LA LE CE FI CO CR SI SR MO BO PX PY PZ SX))) (va_Qv (fun (u : Int32 × (Nat → Int32)) => u = res) (fun u t => qW G (va_A (wMod G h0 qDR qLA qLE qCE qFI qCO qCR qSI qSR qMO qBO qPX qPY qPZ qSX dr bo po sx sy sw tx ty tz DR LA LE CE FI CO CR SI SR MO BO PX PY PZ SX) sz) (wMod G h0 qDR qLA qLE qCE qFI qCO qCR qSI qSR qMO qBO qPX qPY qPZ qSX u.1 bo po sx sy sw tx ty tz u.2 LA LE CE FI CO CR SI SR MO BO PX PY PZ SX) t) (va_A (wMod G h0 qDR qLA qLE qCE qFI qCO qCR qSI qSR qMO qBO qPX qPY qPZ qSX dr bo po sx sy sw tx ty tz DR LA LE CE FI CO CR SI SR MO BO PX PY PZ SX) sz)) 0 0 (va_A (wMod G h0 qDR qLA qLE qCE qFI qCO qCR qSI qSR qMO qBO qPX qPY qPZ qSX dr bo po sx sy sw tx ty tz DR LA LE CE FI CO CR SI SR MO BO PX PY PZ SX) sz) := by
  refine Met.ofW (cc := cX9_put) (maxL := 4) (ret := none) (by decide) rfl ?_
  intro p e s m args below meth c s₁ B hml hv
  obtain ⟨rfl, hsz, hP, hK, hD0⟩ := hv
  have hx := B.exec
  have hb := B.bytes
  have hr := B.returns
  have hts := atoms_spec (ws := wsX9_put) B.pre
  have hown : s.vm.findClass RX9 = some m.cls := findClass_of_methodNamed B.named
  have hlocks := B.notSynchronized
  subst hsz
  have hD := hD0.self (sz := s.heap.size)
  generalize hAe : va_A (wMod G h0 qDR qLA qLE qCE qFI qCO qCR qSI qSR qMO qBO qPX qPY qPZ qSX dr bo po sx sy sw tx ty tz DR LA LE CE FI CO CR SI SR MO BO PX PY PZ SX) s.heap.size = A at hD ⊢
  have hA : ∀ q : Nat, s.heap.size ≤ q → A q := fun q h => by rw [← hAe]; exact Or.inr h
  have hS : va_S A s.heap s.heap [] := va_S.rf
  have hin9 : ∀ w ∈ u_ws RX9 TX9 24, w ∈ wsX9_put := by decide +kernel
  have hfl7 := hts (.fieldLink RX9 7 "SwellBodiesModel" "draft" "[I") (by decide +kernel)
  have hfl64 := hts (.fieldLink RX9 64 "SwellBodiesModel" "drafted" "I") (by decide +kernel)
  have hl := lv_entry ([.ref h0, .int p1, .int p2, .int p3]) (n := 4) (Nat.le_of_ble_eq_true rfl)
  rw [lg_entry_eq]
  generalize (lg_sl ([.ref h0, .int p1, .int p2, .int p3]) ++ List.replicate (4 - (lg_sl ([.ref h0, .int p1, .int p2, .int p3])).length) Slot.unset).toArray = ls at hl ⊢
  have hl : lv_has ls 4 [(0, .ref h0), (1, .int p1), (2, .int p2), (3, .int p3)] := hl
  unfold fX9_put at hF
  refine lv_aload_n hx hb dX9_put_0 rfl (lv_at hl 0 rfl) ?_
  refine va_get (ci := 9) (v := .ref qDR) (C := RX9) (T := TX9) (N := 24) hx hb hts hin9 hown hK hP 0 rfl rfl 1 (by decide) hfl7 (fun _ h9 => h9) rfl dX9_put_1 ?_
  refine lv_iconst (v := 3) hx hb dX9_put_4 (by decide) ?_
  refine lv_aload_n hx hb dX9_put_5 rfl (lv_at hl 0 rfl) ?_
  refine va_get (ci := 9) (v := .int dr) (C := RX9) (T := TX9) (N := 24) hx hb hts hin9 hown hK hP 0 rfl rfl 0 (by decide) hfl64 (fun _ h9 => h9) rfl dX9_put_6 ?_
  refine lv_imul hx hb dX9_put_9 ?_
  refine lv_iload_n hx hb dX9_put_10 rfl (lv_at hl 1 rfl) ?_
  obtain ⟨hi_1, hF⟩ := gd_in_s hF
  refine va_iast hx hb hK hP hD hS 1 0 rfl rfl hi_1 dX9_put_11 (fun H locs hP hD hS => ?_)
  have hP : va_P (gD G) vwCl (wMod G h0 qDR qLA qLE qCE qFI qCO qCR qSI qSR qMO qBO qPX qPY qPZ qSX dr bo po sx sy sw tx ty tz (upd DR (3 * dr).toNatClampNeg p1) LA LE CE FI CO CR SI SR MO BO PX PY PZ SX) H := hP
  have hD : va_D A (wMod G h0 qDR qLA qLE qCE qFI qCO qCR qSI qSR qMO qBO qPX qPY qPZ qSX dr bo po sx sy sw tx ty tz (upd DR (3 * dr).toNatClampNeg p1) LA LE CE FI CO CR SI SR MO BO PX PY PZ SX) := hD
  refine lv_aload_n hx hb dX9_put_12 rfl (lv_at hl 0 rfl) ?_
  refine va_get (ci := 9) (v := .ref qDR) (C := RX9) (T := TX9) (N := 24) hx hb hts hin9 hown hK hP 0 rfl rfl 1 (by decide) hfl7 (fun _ h9 => h9) rfl dX9_put_13 ?_
  refine lv_iconst (v := 3) hx hb dX9_put_16 (by decide) ?_
  refine lv_aload_n hx hb dX9_put_17 rfl (lv_at hl 0 rfl) ?_
  refine va_get (ci := 9) (v := .int dr) (C := RX9) (T := TX9) (N := 24) hx hb hts hin9 hown hK hP 0 rfl rfl 0 (by decide) hfl64 (fun _ h9 => h9) rfl dX9_put_18 ?_
  refine lv_imul hx hb dX9_put_21 ?_
  refine lv_iconst (v := 1) hx hb dX9_put_22 (by decide) ?_
  refine lv_iadd hx hb dX9_put_23 ?_
  refine lv_iload_n hx hb dX9_put_24 rfl (lv_at hl 2 rfl) ?_
  obtain ⟨hi_2, hF⟩ := gd_in_s hF
  refine va_iast hx hb hK hP hD hS 1 0 rfl rfl hi_2 dX9_put_25 (fun H locs hP hD hS => ?_)
  have hP : va_P (gD G) vwCl (wMod G h0 qDR qLA qLE qCE qFI qCO qCR qSI qSR qMO qBO qPX qPY qPZ qSX dr bo po sx sy sw tx ty tz (upd (upd DR (3 * dr).toNatClampNeg p1) ((3 * dr) + 1).toNatClampNeg p2) LA LE CE FI CO CR SI SR MO BO PX PY PZ SX) H := hP
  have hD : va_D A (wMod G h0 qDR qLA qLE qCE qFI qCO qCR qSI qSR qMO qBO qPX qPY qPZ qSX dr bo po sx sy sw tx ty tz (upd (upd DR (3 * dr).toNatClampNeg p1) ((3 * dr) + 1).toNatClampNeg p2) LA LE CE FI CO CR SI SR MO BO PX PY PZ SX) := hD
  refine lv_aload_n hx hb dX9_put_26 rfl (lv_at hl 0 rfl) ?_
  refine va_get (ci := 9) (v := .ref qDR) (C := RX9) (T := TX9) (N := 24) hx hb hts hin9 hown hK hP 0 rfl rfl 1 (by decide) hfl7 (fun _ h9 => h9) rfl dX9_put_27 ?_
  refine lv_iconst (v := 3) hx hb dX9_put_30 (by decide) ?_
  refine lv_aload_n hx hb dX9_put_31 rfl (lv_at hl 0 rfl) ?_
  refine va_get (ci := 9) (v := .int dr) (C := RX9) (T := TX9) (N := 24) hx hb hts hin9 hown hK hP 0 rfl rfl 0 (by decide) hfl64 (fun _ h9 => h9) rfl dX9_put_32 ?_
  refine lv_imul hx hb dX9_put_35 ?_
  refine lv_iconst (v := 2) hx hb dX9_put_36 (by decide) ?_
  refine lv_iadd hx hb dX9_put_37 ?_
  refine lv_iload_n hx hb dX9_put_38 rfl (lv_at hl 3 rfl) ?_
  obtain ⟨hi_3, hF⟩ := gd_in_s hF
  refine va_iast hx hb hK hP hD hS 1 0 rfl rfl hi_3 dX9_put_39 (fun H locs hP hD hS => ?_)
  have hP : va_P (gD G) vwCl (wMod G h0 qDR qLA qLE qCE qFI qCO qCR qSI qSR qMO qBO qPX qPY qPZ qSX dr bo po sx sy sw tx ty tz (upd (upd (upd DR (3 * dr).toNatClampNeg p1) ((3 * dr) + 1).toNatClampNeg p2) ((3 * dr) + 2).toNatClampNeg p3) LA LE CE FI CO CR SI SR MO BO PX PY PZ SX) H := hP
  have hD : va_D A (wMod G h0 qDR qLA qLE qCE qFI qCO qCR qSI qSR qMO qBO qPX qPY qPZ qSX dr bo po sx sy sw tx ty tz (upd (upd (upd DR (3 * dr).toNatClampNeg p1) ((3 * dr) + 1).toNatClampNeg p2) ((3 * dr) + 2).toNatClampNeg p3) LA LE CE FI CO CR SI SR MO BO PX PY PZ SX) := hD
  refine lv_aload_n hx hb dX9_put_40 rfl (lv_at hl 0 rfl) ?_
  refine lv_dup hx hb dX9_put_41 rfl ?_
  refine va_get (ci := 9) (v := .int dr) (C := RX9) (T := TX9) (N := 24) hx hb hts hin9 hown hK hP 0 rfl rfl 0 (by decide) hfl64 (fun _ h9 => h9) rfl dX9_put_42 ?_
  refine lv_iconst (v := 1) hx hb dX9_put_45 (by decide) ?_
  refine lv_iadd hx hb dX9_put_46 ?_
  refine va_put (ci := 9) (v := .int (dr + 1)) (ty := .int) (C := RX9) (T := TX9) (N := 24) hx hb hts hin9 tyX9 tyX9_ok nmX9 hown hK hP hD hS 0 rfl rfl 0 (by decide) hfl64 (fun _ h9 => h9) rfl (by decide +kernel) rfl rfl (Nat.le_of_ble_eq_true rfl) dX9_put_47 (fun H locs hP hD hS => ?_)
  have hP : va_P (gD G) vwCl (wMod G h0 qDR qLA qLE qCE qFI qCO qCR qSI qSR qMO qBO qPX qPY qPZ qSX (dr + 1) bo po sx sy sw tx ty tz (upd (upd (upd DR (3 * dr).toNatClampNeg p1) ((3 * dr) + 1).toNatClampNeg p2) ((3 * dr) + 2).toNatClampNeg p3) LA LE CE FI CO CR SI SR MO BO PX PY PZ SX) H := hP
  have hD : va_D A (wMod G h0 qDR qLA qLE qCE qFI qCO qCR qSI qSR qMO qBO qPX qPY qPZ qSX (dr + 1) bo po sx sy sw tx ty tz (upd (upd (upd DR (3 * dr).toNatClampNeg p1) ((3 * dr) + 1).toNatClampNeg p2) ((3 * dr) + 2).toNatClampNeg p3) LA LE CE FI CO CR SI SR MO BO PX PY PZ SX) := hD
  exact W.vret hx hb hr (fun t ht hW => ⟨⟨(dr + 1, upd (upd (upd DR (3 * dr).toNatClampNeg p1) ((3 * dr) + 1).toNatClampNeg p2) ((3 * dr) + 2).toNatClampNeg p3), rfl, so_e hF, qW_mk ht hP hK hW hD⟩, hS.F ht⟩) hS.2.2 dX9_put_50
def fX9_corner (dr : Int32) (DR : Nat → Int32) (p1 : Int32) (p2 : Int32) (p3 : Int32) : Option (Int32 × Int32 × (Nat → Int32)) :=
  (bd (fX9_in p1.toInt64 (-5) 5) (fun v_1 => (if v_1 = 0 then (some ((-1), dr, DR)) else (bd (fX9_in p2.toInt64 (-5) 5) (fun v_4 => (if v_4 = 0 then (some ((-1), dr, DR)) else (bd (fX9_in p3.toInt64 (-5) 5) (fun v_7 => (if v_7 = 0 then (some ((-1), dr, DR)) else (if dr = 12 then (some ((-3), dr, DR)) else (bd (fX9_put dr DR p1 p2 p3) (fun v_11 => (some (v_11.1, v_11.1, v_11.2))))))))))))))
abbrev rX9_corner : Room := { frames := 1, cells := 0, slots := 0, locals := 25 }
set_option maxHeartbeats 40000000 in
set_option maxRecDepth 100000 in
theorem kX9_corner (l : Launch) (G : GT) (h0 qDR qLA qLE qCE qFI qCO qCR qSI qSR qMO qBO qPX qPY qPZ qSX : Nat) (sz : Nat) (dr : Int32) (bo : Int32) (po : Int32) (sx : Int32) (sy : Int32) (sw : Int32) (tx : Int32) (ty : Int32) (tz : Int32) (DR : Nat → Int32) (LA : Nat → Int32) (LE : Nat → Int32) (CE : Nat → Int64) (FI : Nat → Int32) (CO : Nat → Int32) (CR : Nat → Int32) (SI : Nat → Int32) (SR : Nat → Int32) (MO : Nat → Int32) (BO : Nat → Int32) (PX : Nat → Int32) (PY : Nat → Int32) (PZ : Nat → Int32) (SX : Nat → Int32) (p1 : Int32) (p2 : Int32) (p3 : Int32) (res : Int32 × Int32 × (Nat → Int32)) (hF : fX9_corner dr DR p1 p2 p3 = some res) : Met l yX9_corner wsX9_corner rX9_corner (va_Pc [.ref h0, .int p1, .int p2, .int p3] (pW G sz (wMod G h0 qDR qLA qLE qCE qFI qCO qCR qSI qSR qMO qBO qPX qPY qPZ qSX dr bo po sx sy sw tx ty tz DR LA LE CE FI CO CR SI SR MO BO PX PY PZ SX))) (va_Qi (fun (r : Int32) (u : Int32 × (Nat → Int32)) => r = res.1 ∧ u = res.2) (fun u t => qW G (va_A (wMod G h0 qDR qLA qLE qCE qFI qCO qCR qSI qSR qMO qBO qPX qPY qPZ qSX dr bo po sx sy sw tx ty tz DR LA LE CE FI CO CR SI SR MO BO PX PY PZ SX) sz) (wMod G h0 qDR qLA qLE qCE qFI qCO qCR qSI qSR qMO qBO qPX qPY qPZ qSX u.1 bo po sx sy sw tx ty tz u.2 LA LE CE FI CO CR SI SR MO BO PX PY PZ SX) t) (va_A (wMod G h0 qDR qLA qLE qCE qFI qCO qCR qSI qSR qMO qBO qPX qPY qPZ qSX dr bo po sx sy sw tx ty tz DR LA LE CE FI CO CR SI SR MO BO PX PY PZ SX) sz)) 0 0 (va_A (wMod G h0 qDR qLA qLE qCE qFI qCO qCR qSI qSR qMO qBO qPX qPY qPZ qSX dr bo po sx sy sw tx ty tz DR LA LE CE FI CO CR SI SR MO BO PX PY PZ SX) sz) := by
  refine Met.ofW (cc := cX9_corner) (maxL := 4) (ret := (some .int)) (by decide) rfl ?_
  intro p e s m args below meth c s₁ B hml hv
  obtain ⟨rfl, hsz, hP, hK, hD0⟩ := hv
  have hx := B.exec
  have hb := B.bytes
  have hr := B.returns
  have hts := atoms_spec (ws := wsX9_corner) B.pre
  have hown : s.vm.findClass RX9 = some m.cls := findClass_of_methodNamed B.named
  have hlocks := B.notSynchronized
  subst hsz
  have hD := hD0.self (sz := s.heap.size)
  generalize hAe : va_A (wMod G h0 qDR qLA qLE qCE qFI qCO qCR qSI qSR qMO qBO qPX qPY qPZ qSX dr bo po sx sy sw tx ty tz DR LA LE CE FI CO CR SI SR MO BO PX PY PZ SX) s.heap.size = A at hD ⊢
  have hA : ∀ q : Nat, s.heap.size ≤ q → A q := fun q h => by rw [← hAe]; exact Or.inr h
  have hS : va_S A s.heap s.heap [] := va_S.rf
  have hcn56 := hts (.constantLong RX9 56 (-5)) (by decide +kernel)
  have hcn58 := hts (.constantLong RX9 58 (5)) (by decide +kernel)
  have hin9 : ∀ w ∈ u_ws RX9 TX9 24, w ∈ wsX9_corner := by decide +kernel
  have hfl64 := hts (.fieldLink RX9 64 "SwellBodiesModel" "drafted" "I") (by decide +kernel)
  have hl := lv_entry ([.ref h0, .int p1, .int p2, .int p3]) (n := 4) (Nat.le_of_ble_eq_true rfl)
  rw [lg_entry_eq]
  generalize (lg_sl ([.ref h0, .int p1, .int p2, .int p3]) ++ List.replicate (4 - (lg_sl ([.ref h0, .int p1, .int p2, .int p3])).length) Slot.unset).toArray = ls at hl ⊢
  have hl : lv_has ls 4 [(0, .ref h0), (1, .int p1), (2, .int p2), (3, .int p3)] := hl
  unfold fX9_corner at hF
  refine lv_iload_n hx hb dX9_corner_0 rfl (lv_at hl 1 rfl) ?_
  refine lv_i2l hx hb dX9_corner_1 rfl ?_
  refine lv_ldc2 (v := (-5)) hx hb hown hcn56 dX9_corner_2 ?_
  refine lv_ldc2 (v := 5) hx hb hown hcn58 dX9_corner_5 ?_
  obtain ⟨v_1, hv_1, hF⟩ := bd_s hF
  refine ro_ze (va_runS (As := [.long p1.toInt64, .long (-5), .long 5]) (rest := []) ⟨hx, hb, hml, hown, hts⟩ (kX9_in l G p1.toInt64 (-5) 5 v_1 hv_1) (va_cwS 3 hts gX9_corner_X9_in rfl rfl rfl (by decide +kernel) ⟨Nat.le_of_ble_eq_true rfl, Nat.le_of_ble_eq_true rfl⟩) (psR hK (hP.sub (ws' := ([] : va_W)) [] rfl)) rfl rfl hl.1 rfl (lv_room (Nat.le_of_ble_eq_true rfl)) dX9_corner_8 ⟨Nat.le_of_ble_eq_true rfl, Nat.le_of_ble_eq_true rfl⟩) (fun hb_2 => ?_)
  refine lv_if_eq (tgt := 42) hx hb dX9_corner_11 (by decide) (fun c_3 => ?_) (fun c_3 => ?_)
  · replace hF := it_p c_3 hF
    refine lv_iconst (v := (-1)) hx hb dX9_corner_42 (by decide) ?_
    exact W.iret (v := (-1)) hx hb hr  (fun t ht hW => ⟨⟨(-1), (dr, DR), rfl, ⟨congrArg Prod.fst (so_e hF), congrArg Prod.snd (so_e hF)⟩, qW_mk ht hP hK hW hD⟩, hS.F ht⟩) hS.2.2 dX9_corner_43
  · replace hF := it_n c_3 hF
    refine lv_iload_n hx hb dX9_corner_14 rfl (lv_at hl 2 rfl) ?_
    refine lv_i2l hx hb dX9_corner_15 rfl ?_
    refine lv_ldc2 (v := (-5)) hx hb hown hcn56 dX9_corner_16 ?_
    refine lv_ldc2 (v := 5) hx hb hown hcn58 dX9_corner_19 ?_
    obtain ⟨v_4, hv_4, hF⟩ := bd_s hF
    refine ro_ze (va_runS (As := [.long p2.toInt64, .long (-5), .long 5]) (rest := []) ⟨hx, hb, hml, hown, hts⟩ (kX9_in l G p2.toInt64 (-5) 5 v_4 hv_4) (va_cwS 3 hts gX9_corner_X9_in rfl rfl rfl (by decide +kernel) ⟨Nat.le_of_ble_eq_true rfl, Nat.le_of_ble_eq_true rfl⟩) (psR hK (hP.sub (ws' := ([] : va_W)) [] rfl)) rfl rfl hl.1 rfl (lv_room (Nat.le_of_ble_eq_true rfl)) dX9_corner_22 ⟨Nat.le_of_ble_eq_true rfl, Nat.le_of_ble_eq_true rfl⟩) (fun hb_5 => ?_)
    refine lv_if_eq (tgt := 42) hx hb dX9_corner_25 (by decide) (fun c_6 => ?_) (fun c_6 => ?_)
    · replace hF := it_p c_6 hF
      refine lv_iconst (v := (-1)) hx hb dX9_corner_42 (by decide) ?_
      exact W.iret (v := (-1)) hx hb hr  (fun t ht hW => ⟨⟨(-1), (dr, DR), rfl, ⟨congrArg Prod.fst (so_e hF), congrArg Prod.snd (so_e hF)⟩, qW_mk ht hP hK hW hD⟩, hS.F ht⟩) hS.2.2 dX9_corner_43
    · replace hF := it_n c_6 hF
      refine lv_iload_n hx hb dX9_corner_28 rfl (lv_at hl 3 rfl) ?_
      refine lv_i2l hx hb dX9_corner_29 rfl ?_
      refine lv_ldc2 (v := (-5)) hx hb hown hcn56 dX9_corner_30 ?_
      refine lv_ldc2 (v := 5) hx hb hown hcn58 dX9_corner_33 ?_
      obtain ⟨v_7, hv_7, hF⟩ := bd_s hF
      refine ro_ze (va_runS (As := [.long p3.toInt64, .long (-5), .long 5]) (rest := []) ⟨hx, hb, hml, hown, hts⟩ (kX9_in l G p3.toInt64 (-5) 5 v_7 hv_7) (va_cwS 3 hts gX9_corner_X9_in rfl rfl rfl (by decide +kernel) ⟨Nat.le_of_ble_eq_true rfl, Nat.le_of_ble_eq_true rfl⟩) (psR hK (hP.sub (ws' := ([] : va_W)) [] rfl)) rfl rfl hl.1 rfl (lv_room (Nat.le_of_ble_eq_true rfl)) dX9_corner_36 ⟨Nat.le_of_ble_eq_true rfl, Nat.le_of_ble_eq_true rfl⟩) (fun hb_8 => ?_)
      refine lv_if_ne (tgt := 44) hx hb dX9_corner_39 (by decide) (fun c_9 => ?_) (fun c_9 => ?_)
      · replace hF := it_n c_9 hF
        refine lv_aload_n hx hb dX9_corner_44 rfl (lv_at hl 0 rfl) ?_
        refine va_get (ci := 9) (v := .int dr) (C := RX9) (T := TX9) (N := 24) hx hb hts hin9 hown hK hP 0 rfl rfl 0 (by decide) hfl64 (fun _ h9 => h9) rfl dX9_corner_45 ?_
        refine lv_bipush (v := 12) hx hb dX9_corner_48 (by decide) ?_
        refine lv_icmp_ne (tgt := 56) hx hb dX9_corner_50 (by decide) (fun c_10 => ?_) (fun c_10 => ?_)
        · replace hF := it_n c_10 hF
          refine lv_aload_n hx hb dX9_corner_56 rfl (lv_at hl 0 rfl) ?_
          refine lv_iload_n hx hb dX9_corner_57 rfl (lv_at hl 1 rfl) ?_
          refine lv_iload_n hx hb dX9_corner_58 rfl (lv_at hl 2 rfl) ?_
          refine lv_iload_n hx hb dX9_corner_59 rfl (lv_at hl 3 rfl) ?_
          obtain ⟨v_11, hv_11, hF⟩ := bd_s hF
          refine rw_ve (wf := (fun (u : Int32 × (Nat → Int32)) => (wMod G h0 qDR qLA qLE qCE qFI qCO qCR qSI qSR qMO qBO qPX qPY qPZ qSX u.1 bo po sx sy sw tx ty tz u.2 LA LE CE FI CO CR SI SR MO BO PX PY PZ SX))) (wr := []) (va_runV (As := [.int p1, .int p2, .int p3]) (rest := []) ⟨hx, hb, hml, hown, hts⟩ (kX9_put l G h0 qDR qLA qLE qCE qFI qCO qCR qSI qSR qMO qBO qPX qPY qPZ qSX s.heap.size dr bo po sx sy sw tx ty tz DR LA LE CE FI CO CR SI SR MO BO PX PY PZ SX p1 p2 p3 v_11 hv_11) (cwV 3 hts gX9_corner_X9_put rfl rfl rfl (by decide +kernel) ⟨Nat.le_of_ble_eq_true rfl, Nat.le_of_ble_eq_true rfl⟩) (pvW (q0 := 0) 9 hK (hP.sub (ws' := (wMod G h0 qDR qLA qLE qCE qFI qCO qCR qSI qSR qMO qBO qPX qPY qPZ qSX dr bo po sx sy sw tx ty tz DR LA LE CE FI CO CR SI SR MO BO PX PY PZ SX)) [0, 1, 2, 3, 4, 5, 6, 7, 8, 9, 10, 11, 12, 13, 14, 15] rfl) (hD.sub (ws' := (wMod G h0 qDR qLA qLE qCE qFI qCO qCR qSI qSR qMO qBO qPX qPY qPZ qSX dr bo po sx sy sw tx ty tz DR LA LE CE FI CO CR SI SR MO BO PX PY PZ SX)) [0, 1, 2, 3, 4, 5, 6, 7, 8, 9, 10, 11, 12, 13, 14, 15] (by decide) rfl) rfl rfl) rfl rfl hl.1 rfl (lv_room (Nat.le_of_ble_eq_true rfl)) dX9_corner_60 ⟨Nat.le_of_ble_eq_true rfl, Nat.le_of_ble_eq_true rfl⟩) hP hD hS hA [0, 1, 2, 3, 4, 5, 6, 7, 8, 9, 10, 11, 12, 13, 14, 15] [] rfl rfl (by decide) (by decide) (fun H locs  hP hD hS => ?_)
          have hP : va_P (gD G) vwCl (wMod G h0 qDR qLA qLE qCE qFI qCO qCR qSI qSR qMO qBO qPX qPY qPZ qSX v_11.1 bo po sx sy sw tx ty tz v_11.2 LA LE CE FI CO CR SI SR MO BO PX PY PZ SX) H := hP.sub [0, 1, 2, 3, 4, 5, 6, 7, 8, 9, 10, 11, 12, 13, 14, 15] rfl
          have hD : va_D A (wMod G h0 qDR qLA qLE qCE qFI qCO qCR qSI qSR qMO qBO qPX qPY qPZ qSX v_11.1 bo po sx sy sw tx ty tz v_11.2 LA LE CE FI CO CR SI SR MO BO PX PY PZ SX) := hD.sub [0, 1, 2, 3, 4, 5, 6, 7, 8, 9, 10, 11, 12, 13, 14, 15] (by decide) rfl
          refine lv_aload_n hx hb dX9_corner_63 rfl (lv_at hl 0 rfl) ?_
          refine va_get (ci := 9) (v := .int v_11.1) (C := RX9) (T := TX9) (N := 24) hx hb hts hin9 hown hK hP 0 rfl rfl 0 (by decide) hfl64 (fun _ h9 => h9) rfl dX9_corner_64 ?_
          exact W.iret (v := v_11.1) hx hb hr  (fun t ht hW => ⟨⟨v_11.1, (v_11.1, v_11.2), rfl, ⟨congrArg Prod.fst (so_e hF), congrArg Prod.snd (so_e hF)⟩, qW_mk ht hP hK hW hD⟩, hS.F ht⟩) hS.2.2 dX9_corner_67
        · replace hF := it_p c_10 hF
          refine lv_bipush (v := (-3)) hx hb dX9_corner_53 (by decide) ?_
          exact W.iret (v := (-3)) hx hb hr  (fun t ht hW => ⟨⟨(-3), (dr, DR), rfl, ⟨congrArg Prod.fst (so_e hF), congrArg Prod.snd (so_e hF)⟩, qW_mk ht hP hK hW hD⟩, hS.F ht⟩) hS.2.2 dX9_corner_55
      · replace hF := it_p c_9 hF
        refine lv_iconst (v := (-1)) hx hb dX9_corner_42 (by decide) ?_
        exact W.iret (v := (-1)) hx hb hr  (fun t ht hW => ⟨⟨(-1), (dr, DR), rfl, ⟨congrArg Prod.fst (so_e hF), congrArg Prod.snd (so_e hF)⟩, qW_mk ht hP hK hW hD⟩, hS.F ht⟩) hS.2.2 dX9_corner_43
def LX9_sheaf_54   : Nat → Int32 → Int32 → (Nat → Int32) → (Nat → Int32) → (Nat → Int64) → Option (Int32 × (Nat → Int32) × (Nat → Int32) × (Nat → Int64))
  | 0, _, _, _, _, _ => none
  | k + 1, a1, a4, mLA, mLE, mCE =>
  (if 36 ≤ a4 then (some (1, mLA, mLE, mCE)) else (gd_in ((36 * a1) + a4) 144 (LX9_sheaf_54 k a1 (a4 + 1) mLA mLE (vp_updL mCE ((36 * a1) + a4).toNatClampNeg 0))))
def fX9_sheaf (LA : Nat → Int32) (LE : Nat → Int32) (CE : Nat → Int64) (p1 : Int32) (p2 : Int32) (p3 : Int32) : Option (Int32 × (Nat → Int32) × (Nat → Int32) × (Nat → Int64)) :=
  (bd (fX9_in p1.toInt64 0 3) (fun v_1 => (if v_1 = 0 then (some ((-1), LA, LE, CE)) else (bd (fX9_in p2.toInt64 0 1) (fun v_4 => (if v_4 = 0 then (some ((-1), LA, LE, CE)) else (if p3 ≤ 36 then (if 0 ≤ p3 then (gd_in p1 4 (LX9_sheaf_54 FU p1 0 (upd LA p1.toNatClampNeg p2) (upd LE p1.toNatClampNeg p3) CE)) else (some ((-14), LA, LE, CE))) else (some ((-1), LA, LE, CE)))))))))
abbrev rX9_sheaf : Room := { frames := 1, cells := 0, slots := 0, locals := 25 }
set_option maxHeartbeats 40000000 in
set_option maxRecDepth 100000 in
theorem kX9_sheaf (l : Launch) (G : GT) (h0 qDR qLA qLE qCE qFI qCO qCR qSI qSR qMO qBO qPX qPY qPZ qSX : Nat) (sz : Nat) (dr : Int32) (bo : Int32) (po : Int32) (sx : Int32) (sy : Int32) (sw : Int32) (tx : Int32) (ty : Int32) (tz : Int32) (DR : Nat → Int32) (LA : Nat → Int32) (LE : Nat → Int32) (CE : Nat → Int64) (FI : Nat → Int32) (CO : Nat → Int32) (CR : Nat → Int32) (SI : Nat → Int32) (SR : Nat → Int32) (MO : Nat → Int32) (BO : Nat → Int32) (PX : Nat → Int32) (PY : Nat → Int32) (PZ : Nat → Int32) (SX : Nat → Int32) (p1 : Int32) (p2 : Int32) (p3 : Int32) (res : Int32 × (Nat → Int32) × (Nat → Int32) × (Nat → Int64)) (hF : fX9_sheaf LA LE CE p1 p2 p3 = some res) : Met l yX9_sheaf wsX9_sheaf rX9_sheaf (va_Pc [.ref h0, .int p1, .int p2, .int p3] (pW G sz (wMod G h0 qDR qLA qLE qCE qFI qCO qCR qSI qSR qMO qBO qPX qPY qPZ qSX dr bo po sx sy sw tx ty tz DR LA LE CE FI CO CR SI SR MO BO PX PY PZ SX))) (va_Qi (fun (r : Int32) (u : (Nat → Int32) × (Nat → Int32) × (Nat → Int64)) => r = res.1 ∧ u = res.2) (fun u t => qW G (va_A (wMod G h0 qDR qLA qLE qCE qFI qCO qCR qSI qSR qMO qBO qPX qPY qPZ qSX dr bo po sx sy sw tx ty tz DR LA LE CE FI CO CR SI SR MO BO PX PY PZ SX) sz) (wMod G h0 qDR qLA qLE qCE qFI qCO qCR qSI qSR qMO qBO qPX qPY qPZ qSX dr bo po sx sy sw tx ty tz DR u.1 u.2.1 u.2.2 FI CO CR SI SR MO BO PX PY PZ SX) t) (va_A (wMod G h0 qDR qLA qLE qCE qFI qCO qCR qSI qSR qMO qBO qPX qPY qPZ qSX dr bo po sx sy sw tx ty tz DR LA LE CE FI CO CR SI SR MO BO PX PY PZ SX) sz)) 0 0 (va_A (wMod G h0 qDR qLA qLE qCE qFI qCO qCR qSI qSR qMO qBO qPX qPY qPZ qSX dr bo po sx sy sw tx ty tz DR LA LE CE FI CO CR SI SR MO BO PX PY PZ SX) sz) := by
  refine Met.ofW (cc := cX9_sheaf) (maxL := 5) (ret := (some .int)) (by decide) rfl ?_
  intro p e s m args below meth c s₁ B hml hv
  obtain ⟨rfl, hsz, hP, hK, hD0⟩ := hv
  have hx := B.exec
  have hb := B.bytes
  have hr := B.returns
  have hts := atoms_spec (ws := wsX9_sheaf) B.pre
  have hown : s.vm.findClass RX9 = some m.cls := findClass_of_methodNamed B.named
  have hlocks := B.notSynchronized
  subst hsz
  have hD := hD0.self (sz := s.heap.size)
  generalize hAe : va_A (wMod G h0 qDR qLA qLE qCE qFI qCO qCR qSI qSR qMO qBO qPX qPY qPZ qSX dr bo po sx sy sw tx ty tz DR LA LE CE FI CO CR SI SR MO BO PX PY PZ SX) s.heap.size = A at hD ⊢
  have hA : ∀ q : Nat, s.heap.size ≤ q → A q := fun q h => by rw [← hAe]; exact Or.inr h
  have hS : va_S A s.heap s.heap [] := va_S.rf
  have hcn72 := hts (.constantLong RX9 72 (3)) (by decide +kernel)
  have hin9 : ∀ w ∈ u_ws RX9 TX9 24, w ∈ wsX9_sheaf := by decide +kernel
  have hfl13 := hts (.fieldLink RX9 13 "SwellBodiesModel" "lanes" "[I") (by decide +kernel)
  have hfl16 := hts (.fieldLink RX9 16 "SwellBodiesModel" "lengths" "[I") (by decide +kernel)
  have hfl19 := hts (.fieldLink RX9 19 "SwellBodiesModel" "cells" "[J") (by decide +kernel)
  have hl := lv_entry ([.ref h0, .int p1, .int p2, .int p3]) (n := 5) (Nat.le_of_ble_eq_true rfl)
  rw [lg_entry_eq]
  generalize (lg_sl ([.ref h0, .int p1, .int p2, .int p3]) ++ List.replicate (5 - (lg_sl ([.ref h0, .int p1, .int p2, .int p3])).length) Slot.unset).toArray = ls at hl ⊢
  have hl : lv_has ls 5 [(0, .ref h0), (1, .int p1), (2, .int p2), (3, .int p3)] := hl
  have hL54 : ∀ (k : Nat), ∀ (a1 : Int32) (a4 : Int32) (mLA : Nat → Int32) (mLE : Nat → Int32) (mCE : Nat → Int64) (H : Heap) (locs : List Loc) (ls : Array Slot), LX9_sheaf_54 k a1 a4 mLA mLE mCE = some res → va_P (gD G) vwCl (wMod G h0 qDR qLA qLE qCE qFI qCO qCR qSI qSR qMO qBO qPX qPY qPZ qSX dr bo po sx sy sw tx ty tz DR mLA mLE mCE FI CO CR SI SR MO BO PX PY PZ SX) H → va_D A (wMod G h0 qDR qLA qLE qCE qFI qCO qCR qSI qSR qMO qBO qPX qPY qPZ qSX dr bo po sx sy sw tx ty tz DR mLA mLE mCE FI CO CR SI SR MO BO PX PY PZ SX) → va_S A s.heap H locs → lv_has ls 5 [(0, .ref h0), (1, .int a1), (4, .int a4)] → W p l e (headSpec wsX9_sheaf rX9_sheaf).room s m ([.ref h0, .int p1, .int p2, .int p3] : List Value).toArray below meth c H locs 0 0 (MQ below (va_Qi (fun (r : Int32) (u : (Nat → Int32) × (Nat → Int32) × (Nat → Int64)) => r = res.1 ∧ u = res.2) (fun u t => qW G A (wMod G h0 qDR qLA qLE qCE qFI qCO qCR qSI qSR qMO qBO qPX qPY qPZ qSX dr bo po sx sy sw tx ty tz DR u.1 u.2.1 u.2.2 FI CO CR SI SR MO BO PX PY PZ SX) t) A) ([.ref h0, .int p1, .int p2, .int p3] : List Value).toArray s 0 0 A) (F0 m 54 ls []) := by
    intro k
    induction k with
    | zero =>
      intro a1 a4 mLA mLE mCE H locs ls hF hP hD hS hl
      rw [LX9_sheaf_54] at hF
      cases hF
    | succ k ih =>
      intro a1 a4 mLA mLE mCE H locs ls hF hP hD hS hl
      rw [LX9_sheaf_54] at hF
      refine lv_iload hx hb dX9_sheaf_54 (lv_at hl 2 rfl) ?_
      refine lv_bipush (v := 36) hx hb dX9_sheaf_56 (by decide) ?_
      refine lv_icmp_ge (tgt := 80) hx hb dX9_sheaf_58 (by decide) (fun c_10 => ?_) (fun c_10 => ?_)
      · replace hF := it_p c_10 hF
        refine lv_iconst (v := 1) hx hb dX9_sheaf_80 (by decide) ?_
        exact W.iret (v := 1) hx hb hr  (fun t ht hW => ⟨⟨1, (mLA, mLE, mCE), rfl, ⟨congrArg Prod.fst (so_e hF), congrArg Prod.snd (so_e hF)⟩, qW_mk ht hP hK hW hD⟩, hS.F ht⟩) hS.2.2 dX9_sheaf_81
      · replace hF := it_n c_10 hF
        refine lv_aload_n hx hb dX9_sheaf_61 rfl (lv_at hl 0 rfl) ?_
        refine va_get (ci := 9) (v := .ref qCE) (C := RX9) (T := TX9) (N := 24) hx hb hts hin9 hown hK hP 0 rfl rfl 4 (by decide) hfl19 (fun _ h9 => h9) rfl dX9_sheaf_62 ?_
        refine lv_bipush (v := 36) hx hb dX9_sheaf_65 (by decide) ?_
        refine lv_iload_n hx hb dX9_sheaf_67 rfl (lv_at hl 1 rfl) ?_
        refine lv_imul hx hb dX9_sheaf_68 ?_
        refine lv_iload hx hb dX9_sheaf_69 (lv_at hl 2 rfl) ?_
        refine lv_iadd hx hb dX9_sheaf_71 ?_
        refine lv_lconst (v := 0) hx hb dX9_sheaf_72 (by decide) ?_
        obtain ⟨hi_11, hF⟩ := gd_in_s hF
        refine va_last hx hb hK hP hD hS 4 1 rfl rfl hi_11 dX9_sheaf_73 (fun H locs hP hD hS => ?_)
        have hP : va_P (gD G) vwCl (wMod G h0 qDR qLA qLE qCE qFI qCO qCR qSI qSR qMO qBO qPX qPY qPZ qSX dr bo po sx sy sw tx ty tz DR mLA mLE (vp_updL mCE ((36 * a1) + a4).toNatClampNeg 0) FI CO CR SI SR MO BO PX PY PZ SX) H := hP
        have hD : va_D A (wMod G h0 qDR qLA qLE qCE qFI qCO qCR qSI qSR qMO qBO qPX qPY qPZ qSX dr bo po sx sy sw tx ty tz DR mLA mLE (vp_updL mCE ((36 * a1) + a4).toNatClampNeg 0) FI CO CR SI SR MO BO PX PY PZ SX) := hD
        refine lv_iinc (v := a4 + 1) (lv' := [(4, .int (a4 + 1)), (0, .ref h0), (1, .int a1)]) hx hb dX9_sheaf_74 hl (k := 2) rfl rfl (by decide) rfl (fun ls hl => ?_)
        refine lv_goto (tgt := 54) hx hb dX9_sheaf_77 (by decide) ?_
        exact ih a1 (a4 + 1) mLA mLE (vp_updL mCE ((36 * a1) + a4).toNatClampNeg 0) _ _ _ hF hP hD hS (lv_sub hl [1, 2, 0] rfl)
  unfold fX9_sheaf at hF
  refine lv_iload_n hx hb dX9_sheaf_0 rfl (lv_at hl 1 rfl) ?_
  refine lv_i2l hx hb dX9_sheaf_1 rfl ?_
  refine lv_lconst (v := 0) hx hb dX9_sheaf_2 (by decide) ?_
  refine lv_ldc2 (v := 3) hx hb hown hcn72 dX9_sheaf_3 ?_
  obtain ⟨v_1, hv_1, hF⟩ := bd_s hF
  refine ro_ze (va_runS (As := [.long p1.toInt64, .long 0, .long 3]) (rest := []) ⟨hx, hb, hml, hown, hts⟩ (kX9_in l G p1.toInt64 0 3 v_1 hv_1) (va_cwS 3 hts gX9_sheaf_X9_in rfl rfl rfl (by decide +kernel) ⟨Nat.le_of_ble_eq_true rfl, Nat.le_of_ble_eq_true rfl⟩) (psR hK (hP.sub (ws' := ([] : va_W)) [] rfl)) rfl rfl hl.1 rfl (lv_room (Nat.le_of_ble_eq_true rfl)) dX9_sheaf_6 ⟨Nat.le_of_ble_eq_true rfl, Nat.le_of_ble_eq_true rfl⟩) (fun hb_2 => ?_)
  refine lv_if_eq (tgt := 28) hx hb dX9_sheaf_9 (by decide) (fun c_3 => ?_) (fun c_3 => ?_)
  · replace hF := it_p c_3 hF
    refine lv_iconst (v := (-1)) hx hb dX9_sheaf_28 (by decide) ?_
    exact W.iret (v := (-1)) hx hb hr  (fun t ht hW => ⟨⟨(-1), (LA, LE, CE), rfl, ⟨congrArg Prod.fst (so_e hF), congrArg Prod.snd (so_e hF)⟩, qW_mk ht hP hK hW hD⟩, hS.F ht⟩) hS.2.2 dX9_sheaf_29
  · replace hF := it_n c_3 hF
    refine lv_iload_n hx hb dX9_sheaf_12 rfl (lv_at hl 2 rfl) ?_
    refine lv_i2l hx hb dX9_sheaf_13 rfl ?_
    refine lv_lconst (v := 0) hx hb dX9_sheaf_14 (by decide) ?_
    refine lv_lconst (v := 1) hx hb dX9_sheaf_15 (by decide) ?_
    obtain ⟨v_4, hv_4, hF⟩ := bd_s hF
    refine ro_ze (va_runS (As := [.long p2.toInt64, .long 0, .long 1]) (rest := []) ⟨hx, hb, hml, hown, hts⟩ (kX9_in l G p2.toInt64 0 1 v_4 hv_4) (va_cwS 3 hts gX9_sheaf_X9_in rfl rfl rfl (by decide +kernel) ⟨Nat.le_of_ble_eq_true rfl, Nat.le_of_ble_eq_true rfl⟩) (psR hK (hP.sub (ws' := ([] : va_W)) [] rfl)) rfl rfl hl.1 rfl (lv_room (Nat.le_of_ble_eq_true rfl)) dX9_sheaf_16 ⟨Nat.le_of_ble_eq_true rfl, Nat.le_of_ble_eq_true rfl⟩) (fun hb_5 => ?_)
    refine lv_if_eq (tgt := 28) hx hb dX9_sheaf_19 (by decide) (fun c_6 => ?_) (fun c_6 => ?_)
    · replace hF := it_p c_6 hF
      refine lv_iconst (v := (-1)) hx hb dX9_sheaf_28 (by decide) ?_
      exact W.iret (v := (-1)) hx hb hr  (fun t ht hW => ⟨⟨(-1), (LA, LE, CE), rfl, ⟨congrArg Prod.fst (so_e hF), congrArg Prod.snd (so_e hF)⟩, qW_mk ht hP hK hW hD⟩, hS.F ht⟩) hS.2.2 dX9_sheaf_29
    · replace hF := it_n c_6 hF
      refine lv_iload_n hx hb dX9_sheaf_22 rfl (lv_at hl 3 rfl) ?_
      refine lv_bipush (v := 36) hx hb dX9_sheaf_23 (by decide) ?_
      refine lv_icmp_le (tgt := 30) hx hb dX9_sheaf_25 (by decide) (fun c_7 => ?_) (fun c_7 => ?_)
      · replace hF := it_p c_7 hF
        refine lv_iload_n hx hb dX9_sheaf_30 rfl (lv_at hl 3 rfl) ?_
        refine lv_if_ge (tgt := 37) hx hb dX9_sheaf_31 (by decide) (fun c_8 => ?_) (fun c_8 => ?_)
        · replace hF := it_p c_8 hF
          refine lv_aload_n hx hb dX9_sheaf_37 rfl (lv_at hl 0 rfl) ?_
          refine va_get (ci := 9) (v := .ref qLA) (C := RX9) (T := TX9) (N := 24) hx hb hts hin9 hown hK hP 0 rfl rfl 2 (by decide) hfl13 (fun _ h9 => h9) rfl dX9_sheaf_38 ?_
          refine lv_iload_n hx hb dX9_sheaf_41 rfl (lv_at hl 1 rfl) ?_
          refine lv_iload_n hx hb dX9_sheaf_42 rfl (lv_at hl 2 rfl) ?_
          obtain ⟨hi_9, hF⟩ := gd_in_s hF
          refine va_iast hx hb hK hP hD hS 2 0 rfl rfl hi_9 dX9_sheaf_43 (fun H locs hP hD hS => ?_)
          have hP : va_P (gD G) vwCl (wMod G h0 qDR qLA qLE qCE qFI qCO qCR qSI qSR qMO qBO qPX qPY qPZ qSX dr bo po sx sy sw tx ty tz DR (upd LA p1.toNatClampNeg p2) LE CE FI CO CR SI SR MO BO PX PY PZ SX) H := hP
          have hD : va_D A (wMod G h0 qDR qLA qLE qCE qFI qCO qCR qSI qSR qMO qBO qPX qPY qPZ qSX dr bo po sx sy sw tx ty tz DR (upd LA p1.toNatClampNeg p2) LE CE FI CO CR SI SR MO BO PX PY PZ SX) := hD
          refine lv_aload_n hx hb dX9_sheaf_44 rfl (lv_at hl 0 rfl) ?_
          refine va_get (ci := 9) (v := .ref qLE) (C := RX9) (T := TX9) (N := 24) hx hb hts hin9 hown hK hP 0 rfl rfl 3 (by decide) hfl16 (fun _ h9 => h9) rfl dX9_sheaf_45 ?_
          refine lv_iload_n hx hb dX9_sheaf_48 rfl (lv_at hl 1 rfl) ?_
          refine lv_iload_n hx hb dX9_sheaf_49 rfl (lv_at hl 3 rfl) ?_
          refine va_iast hx hb hK hP hD hS 3 0 rfl rfl hi_9 dX9_sheaf_50 (fun H locs hP hD hS => ?_)
          have hP : va_P (gD G) vwCl (wMod G h0 qDR qLA qLE qCE qFI qCO qCR qSI qSR qMO qBO qPX qPY qPZ qSX dr bo po sx sy sw tx ty tz DR (upd LA p1.toNatClampNeg p2) (upd LE p1.toNatClampNeg p3) CE FI CO CR SI SR MO BO PX PY PZ SX) H := hP
          have hD : va_D A (wMod G h0 qDR qLA qLE qCE qFI qCO qCR qSI qSR qMO qBO qPX qPY qPZ qSX dr bo po sx sy sw tx ty tz DR (upd LA p1.toNatClampNeg p2) (upd LE p1.toNatClampNeg p3) CE FI CO CR SI SR MO BO PX PY PZ SX) := hD
          refine lv_iconst (v := 0) hx hb dX9_sheaf_51 (by decide) ?_
          refine lv_istore (lv' := [(4, .int 0), (0, .ref h0), (1, .int p1), (2, .int p2), (3, .int p3)]) hx hb dX9_sheaf_52 hl (by decide) rfl (fun ls hl => ?_)
          exact hL54 FU p1 0 (upd LA p1.toNatClampNeg p2) (upd LE p1.toNatClampNeg p3) CE _ _ _ hF hP hD hS (lv_sub hl [1, 2, 0] rfl)
        · replace hF := it_n c_8 hF
          refine lv_bipush (v := (-14)) hx hb dX9_sheaf_34 (by decide) ?_
          exact W.iret (v := (-14)) hx hb hr  (fun t ht hW => ⟨⟨(-14), (LA, LE, CE), rfl, ⟨congrArg Prod.fst (so_e hF), congrArg Prod.snd (so_e hF)⟩, qW_mk ht hP hK hW hD⟩, hS.F ht⟩) hS.2.2 dX9_sheaf_36
      · replace hF := it_n c_7 hF
        refine lv_iconst (v := (-1)) hx hb dX9_sheaf_28 (by decide) ?_
        exact W.iret (v := (-1)) hx hb hr  (fun t ht hW => ⟨⟨(-1), (LA, LE, CE), rfl, ⟨congrArg Prod.fst (so_e hF), congrArg Prod.snd (so_e hF)⟩, qW_mk ht hP hK hW hD⟩, hS.F ht⟩) hS.2.2 dX9_sheaf_29
def JX9_lay_75 (LA : Nat → Int32) (LE : Nat → Int32)  (t0 : Int64) (t1 : Int32) (mCE : Nat → Int64) : Option (Int32 × (Nat → Int64)) :=
  (gd_in t1 144 (some (1, vp_updL mCE t1.toNatClampNeg t0)))
def fX9_lay (LA : Nat → Int32) (LE : Nat → Int32) (CE : Nat → Int64) (p1 : Int32) (p2 : Int32) (p3 : Int64) : Option (Int32 × (Nat → Int64)) :=
  (bd (fX9_in p1.toInt64 0 3) (fun v_1 => (if v_1 = 0 then (some ((-1), CE)) else (gd_in p1 4 (if LA p1.toNatClampNeg = (-4) then (some ((-11), CE)) else (bd (fX9_in p2.toInt64 0 (((LE p1.toNatClampNeg) - 1).toInt64)) (fun v_6 => (if v_6 = 0 then (some ((-12), CE)) else (if LA p1.toNatClampNeg = 0 then (JX9_lay_75 LA LE p3.toInt32.toInt64 ((36 * p1) + p2) CE) else (JX9_lay_75 LA LE p3 ((36 * p1) + p2) CE))))))))))
abbrev rX9_lay : Room := { frames := 1, cells := 0, slots := 0, locals := 25 }
set_option maxHeartbeats 40000000 in
set_option maxRecDepth 100000 in
theorem kX9_lay (l : Launch) (G : GT) (h0 qDR qLA qLE qCE qFI qCO qCR qSI qSR qMO qBO qPX qPY qPZ qSX : Nat) (sz : Nat) (dr : Int32) (bo : Int32) (po : Int32) (sx : Int32) (sy : Int32) (sw : Int32) (tx : Int32) (ty : Int32) (tz : Int32) (DR : Nat → Int32) (LA : Nat → Int32) (LE : Nat → Int32) (CE : Nat → Int64) (FI : Nat → Int32) (CO : Nat → Int32) (CR : Nat → Int32) (SI : Nat → Int32) (SR : Nat → Int32) (MO : Nat → Int32) (BO : Nat → Int32) (PX : Nat → Int32) (PY : Nat → Int32) (PZ : Nat → Int32) (SX : Nat → Int32) (p1 : Int32) (p2 : Int32) (p3 : Int64) (res : Int32 × (Nat → Int64)) (hF : fX9_lay LA LE CE p1 p2 p3 = some res) : Met l yX9_lay wsX9_lay rX9_lay (va_Pc [.ref h0, .int p1, .int p2, .long p3] (pW G sz (wMod G h0 qDR qLA qLE qCE qFI qCO qCR qSI qSR qMO qBO qPX qPY qPZ qSX dr bo po sx sy sw tx ty tz DR LA LE CE FI CO CR SI SR MO BO PX PY PZ SX))) (va_Qi (fun (r : Int32) (u : (Nat → Int64)) => r = res.1 ∧ u = res.2) (fun u t => qW G (va_A (wMod G h0 qDR qLA qLE qCE qFI qCO qCR qSI qSR qMO qBO qPX qPY qPZ qSX dr bo po sx sy sw tx ty tz DR LA LE CE FI CO CR SI SR MO BO PX PY PZ SX) sz) (wMod G h0 qDR qLA qLE qCE qFI qCO qCR qSI qSR qMO qBO qPX qPY qPZ qSX dr bo po sx sy sw tx ty tz DR LA LE u FI CO CR SI SR MO BO PX PY PZ SX) t) (va_A (wMod G h0 qDR qLA qLE qCE qFI qCO qCR qSI qSR qMO qBO qPX qPY qPZ qSX dr bo po sx sy sw tx ty tz DR LA LE CE FI CO CR SI SR MO BO PX PY PZ SX) sz)) 0 0 (va_A (wMod G h0 qDR qLA qLE qCE qFI qCO qCR qSI qSR qMO qBO qPX qPY qPZ qSX dr bo po sx sy sw tx ty tz DR LA LE CE FI CO CR SI SR MO BO PX PY PZ SX) sz) := by
  refine Met.ofW (cc := cX9_lay) (maxL := 5) (ret := (some .int)) (by decide) rfl ?_
  intro p e s m args below meth c s₁ B hml hv
  obtain ⟨rfl, hsz, hP, hK, hD0⟩ := hv
  have hx := B.exec
  have hb := B.bytes
  have hr := B.returns
  have hts := atoms_spec (ws := wsX9_lay) B.pre
  have hown : s.vm.findClass RX9 = some m.cls := findClass_of_methodNamed B.named
  have hlocks := B.notSynchronized
  subst hsz
  have hD := hD0.self (sz := s.heap.size)
  generalize hAe : va_A (wMod G h0 qDR qLA qLE qCE qFI qCO qCR qSI qSR qMO qBO qPX qPY qPZ qSX dr bo po sx sy sw tx ty tz DR LA LE CE FI CO CR SI SR MO BO PX PY PZ SX) s.heap.size = A at hD ⊢
  have hA : ∀ q : Nat, s.heap.size ≤ q → A q := fun q h => by rw [← hAe]; exact Or.inr h
  have hS : va_S A s.heap s.heap [] := va_S.rf
  have hcn72 := hts (.constantLong RX9 72 (3)) (by decide +kernel)
  have hin9 : ∀ w ∈ u_ws RX9 TX9 24, w ∈ wsX9_lay := by decide +kernel
  have hfl13 := hts (.fieldLink RX9 13 "SwellBodiesModel" "lanes" "[I") (by decide +kernel)
  have hfl16 := hts (.fieldLink RX9 16 "SwellBodiesModel" "lengths" "[I") (by decide +kernel)
  have hfl19 := hts (.fieldLink RX9 19 "SwellBodiesModel" "cells" "[J") (by decide +kernel)
  have hl := lv_entry ([.ref h0, .int p1, .int p2, .long p3]) (n := 5) (Nat.le_of_ble_eq_true rfl)
  rw [lg_entry_eq]
  generalize (lg_sl ([.ref h0, .int p1, .int p2, .long p3]) ++ List.replicate (5 - (lg_sl ([.ref h0, .int p1, .int p2, .long p3])).length) Slot.unset).toArray = ls at hl ⊢
  have hl : lv_has ls 5 [(0, .ref h0), (1, .int p1), (2, .int p2), (3, .long p3)] := hl
  have hJ75 : ∀ (t0 : Int64) (t1 : Int32) (mCE : Nat → Int64) (H : Heap) (locs : List Loc) (ls : Array Slot), JX9_lay_75 LA LE t0 t1 mCE = some res → va_P (gD G) vwCl (wMod G h0 qDR qLA qLE qCE qFI qCO qCR qSI qSR qMO qBO qPX qPY qPZ qSX dr bo po sx sy sw tx ty tz DR LA LE mCE FI CO CR SI SR MO BO PX PY PZ SX) H → va_D A (wMod G h0 qDR qLA qLE qCE qFI qCO qCR qSI qSR qMO qBO qPX qPY qPZ qSX dr bo po sx sy sw tx ty tz DR LA LE mCE FI CO CR SI SR MO BO PX PY PZ SX) → va_S A s.heap H locs → lv_has ls 5 [] → W p l e (headSpec wsX9_lay rX9_lay).room s m ([.ref h0, .int p1, .int p2, .long p3] : List Value).toArray below meth c H locs 0 0 (MQ below (va_Qi (fun (r : Int32) (u : (Nat → Int64)) => r = res.1 ∧ u = res.2) (fun u t => qW G A (wMod G h0 qDR qLA qLE qCE qFI qCO qCR qSI qSR qMO qBO qPX qPY qPZ qSX dr bo po sx sy sw tx ty tz DR LA LE u FI CO CR SI SR MO BO PX PY PZ SX) t) A) ([.ref h0, .int p1, .int p2, .long p3] : List Value).toArray s 0 0 A) (F0 m 75 ls [.long t0, .int t1, .ref qCE]) := by
    intro t0 t1 mCE H locs ls hF hP hD hS hl
    unfold JX9_lay_75 at hF
    obtain ⟨hi_10, hF⟩ := gd_in_s hF
    refine va_last hx hb hK hP hD hS 4 1 rfl rfl hi_10 dX9_lay_75 (fun H locs hP hD hS => ?_)
    have hP : va_P (gD G) vwCl (wMod G h0 qDR qLA qLE qCE qFI qCO qCR qSI qSR qMO qBO qPX qPY qPZ qSX dr bo po sx sy sw tx ty tz DR LA LE (vp_updL mCE t1.toNatClampNeg t0) FI CO CR SI SR MO BO PX PY PZ SX) H := hP
    have hD : va_D A (wMod G h0 qDR qLA qLE qCE qFI qCO qCR qSI qSR qMO qBO qPX qPY qPZ qSX dr bo po sx sy sw tx ty tz DR LA LE (vp_updL mCE t1.toNatClampNeg t0) FI CO CR SI SR MO BO PX PY PZ SX) := hD
    refine lv_iconst (v := 1) hx hb dX9_lay_76 (by decide) ?_
    exact W.iret (v := 1) hx hb hr  (fun t ht hW => ⟨⟨1, vp_updL mCE t1.toNatClampNeg t0, rfl, ⟨congrArg Prod.fst (so_e hF), congrArg Prod.snd (so_e hF)⟩, qW_mk ht hP hK hW hD⟩, hS.F ht⟩) hS.2.2 dX9_lay_77
  unfold fX9_lay at hF
  refine lv_iload_n hx hb dX9_lay_0 rfl (lv_at hl 1 rfl) ?_
  refine lv_i2l hx hb dX9_lay_1 rfl ?_
  refine lv_lconst (v := 0) hx hb dX9_lay_2 (by decide) ?_
  refine lv_ldc2 (v := 3) hx hb hown hcn72 dX9_lay_3 ?_
  obtain ⟨v_1, hv_1, hF⟩ := bd_s hF
  refine ro_ze (va_runS (As := [.long p1.toInt64, .long 0, .long 3]) (rest := []) ⟨hx, hb, hml, hown, hts⟩ (kX9_in l G p1.toInt64 0 3 v_1 hv_1) (va_cwS 3 hts gX9_lay_X9_in rfl rfl rfl (by decide +kernel) ⟨Nat.le_of_ble_eq_true rfl, Nat.le_of_ble_eq_true rfl⟩) (psR hK (hP.sub (ws' := ([] : va_W)) [] rfl)) rfl rfl hl.1 rfl (lv_room (Nat.le_of_ble_eq_true rfl)) dX9_lay_6 ⟨Nat.le_of_ble_eq_true rfl, Nat.le_of_ble_eq_true rfl⟩) (fun hb_2 => ?_)
  refine lv_if_ne (tgt := 14) hx hb dX9_lay_9 (by decide) (fun c_3 => ?_) (fun c_3 => ?_)
  · replace hF := it_n c_3 hF
    refine lv_aload_n hx hb dX9_lay_14 rfl (lv_at hl 0 rfl) ?_
    refine va_get (ci := 9) (v := .ref qLA) (C := RX9) (T := TX9) (N := 24) hx hb hts hin9 hown hK hP 0 rfl rfl 2 (by decide) hfl13 (fun _ h9 => h9) rfl dX9_lay_15 ?_
    refine lv_iload_n hx hb dX9_lay_18 rfl (lv_at hl 1 rfl) ?_
    obtain ⟨hi_4, hF⟩ := gd_in_s hF
    refine va_iald hx hb hK hP 2 0 rfl rfl hi_4 dX9_lay_19 ?_
    refine lv_bipush (v := (-4)) hx hb dX9_lay_20 (by decide) ?_
    refine lv_icmp_ne (tgt := 28) hx hb dX9_lay_22 (by decide) (fun c_5 => ?_) (fun c_5 => ?_)
    · replace hF := it_n c_5 hF
      refine lv_iload_n hx hb dX9_lay_28 rfl (lv_at hl 2 rfl) ?_
      refine lv_i2l hx hb dX9_lay_29 rfl ?_
      refine lv_lconst (v := 0) hx hb dX9_lay_30 (by decide) ?_
      refine lv_aload_n hx hb dX9_lay_31 rfl (lv_at hl 0 rfl) ?_
      refine va_get (ci := 9) (v := .ref qLE) (C := RX9) (T := TX9) (N := 24) hx hb hts hin9 hown hK hP 0 rfl rfl 3 (by decide) hfl16 (fun _ h9 => h9) rfl dX9_lay_32 ?_
      refine lv_iload_n hx hb dX9_lay_35 rfl (lv_at hl 1 rfl) ?_
      refine va_iald hx hb hK hP 3 0 rfl rfl hi_4 dX9_lay_36 ?_
      refine lv_iconst (v := 1) hx hb dX9_lay_37 (by decide) ?_
      refine lv_isub hx hb dX9_lay_38 ?_
      refine lv_i2l hx hb dX9_lay_39 rfl ?_
      obtain ⟨v_6, hv_6, hF⟩ := bd_s hF
      refine ro_ze (va_runS (As := [.long p2.toInt64, .long 0, .long (((LE p1.toNatClampNeg) - 1).toInt64)]) (rest := []) ⟨hx, hb, hml, hown, hts⟩ (kX9_in l G p2.toInt64 0 (((LE p1.toNatClampNeg) - 1).toInt64) v_6 hv_6) (va_cwS 3 hts gX9_lay_X9_in rfl rfl rfl (by decide +kernel) ⟨Nat.le_of_ble_eq_true rfl, Nat.le_of_ble_eq_true rfl⟩) (psR hK (hP.sub (ws' := ([] : va_W)) [] rfl)) rfl rfl hl.1 rfl (lv_room (Nat.le_of_ble_eq_true rfl)) dX9_lay_40 ⟨Nat.le_of_ble_eq_true rfl, Nat.le_of_ble_eq_true rfl⟩) (fun hb_7 => ?_)
      refine lv_if_ne (tgt := 49) hx hb dX9_lay_43 (by decide) (fun c_8 => ?_) (fun c_8 => ?_)
      · replace hF := it_n c_8 hF
        refine lv_aload_n hx hb dX9_lay_49 rfl (lv_at hl 0 rfl) ?_
        refine va_get (ci := 9) (v := .ref qCE) (C := RX9) (T := TX9) (N := 24) hx hb hts hin9 hown hK hP 0 rfl rfl 4 (by decide) hfl19 (fun _ h9 => h9) rfl dX9_lay_50 ?_
        refine lv_bipush (v := 36) hx hb dX9_lay_53 (by decide) ?_
        refine lv_iload_n hx hb dX9_lay_55 rfl (lv_at hl 1 rfl) ?_
        refine lv_imul hx hb dX9_lay_56 ?_
        refine lv_iload_n hx hb dX9_lay_57 rfl (lv_at hl 2 rfl) ?_
        refine lv_iadd hx hb dX9_lay_58 ?_
        refine lv_aload_n hx hb dX9_lay_59 rfl (lv_at hl 0 rfl) ?_
        refine va_get (ci := 9) (v := .ref qLA) (C := RX9) (T := TX9) (N := 24) hx hb hts hin9 hown hK hP 0 rfl rfl 2 (by decide) hfl13 (fun _ h9 => h9) rfl dX9_lay_60 ?_
        refine lv_iload_n hx hb dX9_lay_63 rfl (lv_at hl 1 rfl) ?_
        refine va_iald hx hb hK hP 2 0 rfl rfl hi_4 dX9_lay_64 ?_
        refine lv_if_ne (tgt := 74) hx hb dX9_lay_65 (by decide) (fun c_9 => ?_) (fun c_9 => ?_)
        · replace hF := it_n c_9 hF
          refine lv_lload_n hx hb dX9_lay_74 rfl (lv_at hl 3 rfl) ?_
          exact hJ75 p3 ((36 * p1) + p2) CE _ _ _ hF hP hD hS (lv_sub hl [] rfl)
        · replace hF := it_p c_9 hF
          refine lv_lload_n hx hb dX9_lay_68 rfl (lv_at hl 3 rfl) ?_
          refine lv_l2i hx hb dX9_lay_69 rfl ?_
          refine lv_i2l hx hb dX9_lay_70 rfl ?_
          refine lv_goto (tgt := 75) hx hb dX9_lay_71 (by decide) ?_
          exact hJ75 p3.toInt32.toInt64 ((36 * p1) + p2) CE _ _ _ hF hP hD hS (lv_sub hl [] rfl)
      · replace hF := it_p c_8 hF
        refine lv_bipush (v := (-12)) hx hb dX9_lay_46 (by decide) ?_
        exact W.iret (v := (-12)) hx hb hr  (fun t ht hW => ⟨⟨(-12), CE, rfl, ⟨congrArg Prod.fst (so_e hF), congrArg Prod.snd (so_e hF)⟩, qW_mk ht hP hK hW hD⟩, hS.F ht⟩) hS.2.2 dX9_lay_48
    · replace hF := it_p c_5 hF
      refine lv_bipush (v := (-11)) hx hb dX9_lay_25 (by decide) ?_
      exact W.iret (v := (-11)) hx hb hr  (fun t ht hW => ⟨⟨(-11), CE, rfl, ⟨congrArg Prod.fst (so_e hF), congrArg Prod.snd (so_e hF)⟩, qW_mk ht hP hK hW hD⟩, hS.F ht⟩) hS.2.2 dX9_lay_27
  · replace hF := it_p c_3 hF
    refine lv_iconst (v := (-1)) hx hb dX9_lay_12 (by decide) ?_
    exact W.iret (v := (-1)) hx hb hr  (fun t ht hW => ⟨⟨(-1), CE, rfl, ⟨congrArg Prod.fst (so_e hF), congrArg Prod.snd (so_e hF)⟩, qW_mk ht hP hK hW hD⟩, hS.F ht⟩) hS.2.2 dX9_lay_13
def JX9_draw_249 (LA : Nat → Int32) (LE : Nat → Int32) (CE : Nat → Int64)  (a5 : Int32) (t0 : Int32) (mdr : Int32) (mDR : Nat → Int32) : Option (Int32 × Int32 × (Nat → Int32)) :=
  (if 0 ≤ a5 then (some (t0, t0, mDR)) else (some (a5, t0, mDR)))
def JX9_draw_234 (LA : Nat → Int32) (LE : Nat → Int32) (CE : Nat → Int64)  (a4 : Int32) (a5 : Int32) (mdr : Int32) (mDR : Nat → Int32) : Option (Int32 × Int32 × (Nat → Int32)) :=
  (if 0 ≤ a5 then (JX9_draw_249 LA LE CE a5 mdr mdr mDR) else (JX9_draw_249 LA LE CE a5 a4 mdr mDR))
def JX9_draw_228 (LA : Nat → Int32) (LE : Nat → Int32) (CE : Nat → Int64) (k69 : Int32 → Int32 → Int32 → Int32 → Int32 → Int32 → (Nat → Int32) → Option (Int32 × Int32 × (Nat → Int32))) (a1 : Int32) (a3 : Int32) (a4 : Int32) (a5 : Int32) (a6 : Int32) (mdr : Int32) (mDR : Nat → Int32) : Option (Int32 × Int32 × (Nat → Int32)) :=
  (k69 a1 a3 a4 a5 (a6 + 1) mdr mDR)
def JX9_draw_174 (LA : Nat → Int32) (LE : Nat → Int32) (CE : Nat → Int64) (k69 : Int32 → Int32 → Int32 → Int32 → Int32 → Int32 → (Nat → Int32) → Option (Int32 × Int32 × (Nat → Int32))) (a1 : Int32) (a3 : Int32) (a4 : Int32) (a6 : Int32) (mdr : Int32) (mDR : Nat → Int32) : Option (Int32 × Int32 × (Nat → Int32)) :=
  (JX9_draw_228 LA LE CE k69 a1 a3 a4 (-1) a6 mdr mDR)
def LX9_draw_69 (LA : Nat → Int32) (LE : Nat → Int32) (CE : Nat → Int64)  : Nat → Int32 → Int32 → Int32 → Int32 → Int32 → Int32 → (Nat → Int32) → Option (Int32 × Int32 × (Nat → Int32))
  | 0, _, _, _, _, _, _, _ => none
  | k + 1, a1, a3, a4, a5, a6, mdr, mDR =>
  (if a3 ≤ a6 then (JX9_draw_234 LA LE CE a4 a5 mdr mDR) else (if a5 = 0 then (gd_in a1 4 (if (3 * a6) + 2 < LE a1.toNatClampNeg then (gd_in ((36 * a1) + (3 * a6)) 144 (bd (fX9_in (CE ((36 * a1) + (3 * a6)).toNatClampNeg) (-5) 5) (fun v_17 => (if v_17 = 0 then (JX9_draw_174 LA LE CE (LX9_draw_69 LA LE CE k) a1 a3 a4 a6 mdr mDR) else (gd_in (((36 * a1) + (3 * a6)) + 1) 144 (bd (fX9_in (CE (((36 * a1) + (3 * a6)) + 1).toNatClampNeg) (-5) 5) (fun v_21 => (if v_21 = 0 then (JX9_draw_174 LA LE CE (LX9_draw_69 LA LE CE k) a1 a3 a4 a6 mdr mDR) else (gd_in (((36 * a1) + (3 * a6)) + 2) 144 (bd (fX9_in (CE (((36 * a1) + (3 * a6)) + 2).toNatClampNeg) (-5) 5) (fun v_25 => (if v_25 = 0 then (JX9_draw_174 LA LE CE (LX9_draw_69 LA LE CE k) a1 a3 a4 a6 mdr mDR) else (if mdr = 12 then (JX9_draw_228 LA LE CE (LX9_draw_69 LA LE CE k) a1 a3 a4 (-3) a6 mdr mDR) else (bd (fX9_put mdr mDR ((CE ((36 * a1) + (3 * a6)).toNatClampNeg).toInt32) ((CE (((36 * a1) + (3 * a6)) + 1).toNatClampNeg).toInt32) ((CE (((36 * a1) + (3 * a6)) + 2).toNatClampNeg).toInt32)) (fun v_29 => (JX9_draw_228 LA LE CE (LX9_draw_69 LA LE CE k) a1 a3 a4 a5 a6 v_29.1 v_29.2)))))))))))))))) else (JX9_draw_228 LA LE CE (LX9_draw_69 LA LE CE k) a1 a3 a4 (-12) a6 mdr mDR))) else (JX9_draw_234 LA LE CE a4 a5 mdr mDR)))
def fX9_draw (dr : Int32) (DR : Nat → Int32) (LA : Nat → Int32) (LE : Nat → Int32) (CE : Nat → Int64) (p1 : Int32) (p2 : Int32) (p3 : Int32) : Option (Int32 × Int32 × (Nat → Int32)) :=
  (bd (fX9_in p1.toInt64 0 3) (fun v_1 => (if v_1 = 0 then (some ((-1), dr, DR)) else (bd (fX9_in p2.toInt64 0 1) (fun v_4 => (if v_4 = 0 then (some ((-1), dr, DR)) else (if 0 ≤ p3 then (gd_in p1 4 (if LA p1.toNatClampNeg = p2 then (LX9_draw_69 LA LE CE FU p1 p3 dr 0 0 dr DR) else (if LA p1.toNatClampNeg = (-4) then (some ((-11), dr, DR)) else (some ((-13), dr, DR))))) else (some ((-1), dr, DR)))))))))
abbrev rX9_draw : Room := { frames := 1, cells := 0, slots := 0, locals := 25 }
set_option maxHeartbeats 40000000 in
set_option maxRecDepth 100000 in
theorem kX9_draw (l : Launch) (G : GT) (h0 qDR qLA qLE qCE qFI qCO qCR qSI qSR qMO qBO qPX qPY qPZ qSX : Nat) (sz : Nat) (dr : Int32) (bo : Int32) (po : Int32) (sx : Int32) (sy : Int32) (sw : Int32) (tx : Int32) (ty : Int32) (tz : Int32) (DR : Nat → Int32) (LA : Nat → Int32) (LE : Nat → Int32) (CE : Nat → Int64) (FI : Nat → Int32) (CO : Nat → Int32) (CR : Nat → Int32) (SI : Nat → Int32) (SR : Nat → Int32) (MO : Nat → Int32) (BO : Nat → Int32) (PX : Nat → Int32) (PY : Nat → Int32) (PZ : Nat → Int32) (SX : Nat → Int32) (p1 : Int32) (p2 : Int32) (p3 : Int32) (res : Int32 × Int32 × (Nat → Int32)) (hF : fX9_draw dr DR LA LE CE p1 p2 p3 = some res) : Met l yX9_draw wsX9_draw rX9_draw (va_Pc [.ref h0, .int p1, .int p2, .int p3] (pW G sz (wMod G h0 qDR qLA qLE qCE qFI qCO qCR qSI qSR qMO qBO qPX qPY qPZ qSX dr bo po sx sy sw tx ty tz DR LA LE CE FI CO CR SI SR MO BO PX PY PZ SX))) (va_Qi (fun (r : Int32) (u : Int32 × (Nat → Int32)) => r = res.1 ∧ u = res.2) (fun u t => qW G (va_A (wMod G h0 qDR qLA qLE qCE qFI qCO qCR qSI qSR qMO qBO qPX qPY qPZ qSX dr bo po sx sy sw tx ty tz DR LA LE CE FI CO CR SI SR MO BO PX PY PZ SX) sz) (wMod G h0 qDR qLA qLE qCE qFI qCO qCR qSI qSR qMO qBO qPX qPY qPZ qSX u.1 bo po sx sy sw tx ty tz u.2 LA LE CE FI CO CR SI SR MO BO PX PY PZ SX) t) (va_A (wMod G h0 qDR qLA qLE qCE qFI qCO qCR qSI qSR qMO qBO qPX qPY qPZ qSX dr bo po sx sy sw tx ty tz DR LA LE CE FI CO CR SI SR MO BO PX PY PZ SX) sz)) 0 0 (va_A (wMod G h0 qDR qLA qLE qCE qFI qCO qCR qSI qSR qMO qBO qPX qPY qPZ qSX dr bo po sx sy sw tx ty tz DR LA LE CE FI CO CR SI SR MO BO PX PY PZ SX) sz) := by
  refine Met.ofW (cc := cX9_draw) (maxL := 8) (ret := (some .int)) (by decide) rfl ?_
  intro p e s m args below meth c s₁ B hml hv
  obtain ⟨rfl, hsz, hP, hK, hD0⟩ := hv
  have hx := B.exec
  have hb := B.bytes
  have hr := B.returns
  have hts := atoms_spec (ws := wsX9_draw) B.pre
  have hown : s.vm.findClass RX9 = some m.cls := findClass_of_methodNamed B.named
  have hlocks := B.notSynchronized
  subst hsz
  have hD := hD0.self (sz := s.heap.size)
  generalize hAe : va_A (wMod G h0 qDR qLA qLE qCE qFI qCO qCR qSI qSR qMO qBO qPX qPY qPZ qSX dr bo po sx sy sw tx ty tz DR LA LE CE FI CO CR SI SR MO BO PX PY PZ SX) s.heap.size = A at hD ⊢
  have hA : ∀ q : Nat, s.heap.size ≤ q → A q := fun q h => by rw [← hAe]; exact Or.inr h
  have hS : va_S A s.heap s.heap [] := va_S.rf
  have hcn72 := hts (.constantLong RX9 72 (3)) (by decide +kernel)
  have hin9 : ∀ w ∈ u_ws RX9 TX9 24, w ∈ wsX9_draw := by decide +kernel
  have hfl13 := hts (.fieldLink RX9 13 "SwellBodiesModel" "lanes" "[I") (by decide +kernel)
  have hfl64 := hts (.fieldLink RX9 64 "SwellBodiesModel" "drafted" "I") (by decide +kernel)
  have hfl16 := hts (.fieldLink RX9 16 "SwellBodiesModel" "lengths" "[I") (by decide +kernel)
  have hfl19 := hts (.fieldLink RX9 19 "SwellBodiesModel" "cells" "[J") (by decide +kernel)
  have hcn56 := hts (.constantLong RX9 56 (-5)) (by decide +kernel)
  have hcn58 := hts (.constantLong RX9 58 (5)) (by decide +kernel)
  have hl := lv_entry ([.ref h0, .int p1, .int p2, .int p3]) (n := 8) (Nat.le_of_ble_eq_true rfl)
  rw [lg_entry_eq]
  generalize (lg_sl ([.ref h0, .int p1, .int p2, .int p3]) ++ List.replicate (8 - (lg_sl ([.ref h0, .int p1, .int p2, .int p3])).length) Slot.unset).toArray = ls at hl ⊢
  have hl : lv_has ls 8 [(0, .ref h0), (1, .int p1), (2, .int p2), (3, .int p3)] := hl
  have hJ249 : ∀ (a5 : Int32) (t0 : Int32) (mdr : Int32) (mDR : Nat → Int32) (H : Heap) (locs : List Loc) (ls : Array Slot), JX9_draw_249 LA LE CE a5 t0 mdr mDR = some res → va_P (gD G) vwCl (wMod G h0 qDR qLA qLE qCE qFI qCO qCR qSI qSR qMO qBO qPX qPY qPZ qSX mdr bo po sx sy sw tx ty tz mDR LA LE CE FI CO CR SI SR MO BO PX PY PZ SX) H → va_D A (wMod G h0 qDR qLA qLE qCE qFI qCO qCR qSI qSR qMO qBO qPX qPY qPZ qSX mdr bo po sx sy sw tx ty tz mDR LA LE CE FI CO CR SI SR MO BO PX PY PZ SX) → va_S A s.heap H locs → lv_has ls 8 [(0, .ref h0), (5, .int a5)] → W p l e (headSpec wsX9_draw rX9_draw).room s m ([.ref h0, .int p1, .int p2, .int p3] : List Value).toArray below meth c H locs 0 0 (MQ below (va_Qi (fun (r : Int32) (u : Int32 × (Nat → Int32)) => r = res.1 ∧ u = res.2) (fun u t => qW G A (wMod G h0 qDR qLA qLE qCE qFI qCO qCR qSI qSR qMO qBO qPX qPY qPZ qSX u.1 bo po sx sy sw tx ty tz u.2 LA LE CE FI CO CR SI SR MO BO PX PY PZ SX) t) A) ([.ref h0, .int p1, .int p2, .int p3] : List Value).toArray s 0 0 A) (F0 m 249 ls [.int t0, .ref h0]) := by
    intro a5 t0 mdr mDR H locs ls hF hP hD hS hl
    unfold JX9_draw_249 at hF
    refine va_put (ci := 9) (v := .int t0) (ty := .int) (C := RX9) (T := TX9) (N := 24) hx hb hts hin9 tyX9 tyX9_ok nmX9 hown hK hP hD hS 0 rfl rfl 0 (by decide) hfl64 (fun _ h9 => h9) rfl (by decide +kernel) rfl rfl (Nat.le_of_ble_eq_true rfl) dX9_draw_249 (fun H locs hP hD hS => ?_)
    have hP : va_P (gD G) vwCl (wMod G h0 qDR qLA qLE qCE qFI qCO qCR qSI qSR qMO qBO qPX qPY qPZ qSX t0 bo po sx sy sw tx ty tz mDR LA LE CE FI CO CR SI SR MO BO PX PY PZ SX) H := hP
    have hD : va_D A (wMod G h0 qDR qLA qLE qCE qFI qCO qCR qSI qSR qMO qBO qPX qPY qPZ qSX t0 bo po sx sy sw tx ty tz mDR LA LE CE FI CO CR SI SR MO BO PX PY PZ SX) := hD
    refine lv_iload hx hb dX9_draw_252 (lv_at hl 1 rfl) ?_
    refine lv_if_ge (tgt := 262) hx hb dX9_draw_254 (by decide) (fun c_12 => ?_) (fun c_12 => ?_)
    · replace hF := it_p c_12 hF
      refine lv_aload_n hx hb dX9_draw_262 rfl (lv_at hl 0 rfl) ?_
      refine va_get (ci := 9) (v := .int t0) (C := RX9) (T := TX9) (N := 24) hx hb hts hin9 hown hK hP 0 rfl rfl 0 (by decide) hfl64 (fun _ h9 => h9) rfl dX9_draw_263 ?_
      exact W.iret (v := t0) hx hb hr  (fun t ht hW => ⟨⟨t0, (t0, mDR), rfl, ⟨congrArg Prod.fst (so_e hF), congrArg Prod.snd (so_e hF)⟩, qW_mk ht hP hK hW hD⟩, hS.F ht⟩) hS.2.2 dX9_draw_266
    · replace hF := it_n c_12 hF
      refine lv_iload hx hb dX9_draw_257 (lv_at hl 1 rfl) ?_
      refine lv_goto (tgt := 266) hx hb dX9_draw_259 (by decide) ?_
      exact W.iret (v := a5) hx hb hr  (fun t ht hW => ⟨⟨a5, (t0, mDR), rfl, ⟨congrArg Prod.fst (so_e hF), congrArg Prod.snd (so_e hF)⟩, qW_mk ht hP hK hW hD⟩, hS.F ht⟩) hS.2.2 dX9_draw_266
  have hJ234 : ∀ (a4 : Int32) (a5 : Int32) (mdr : Int32) (mDR : Nat → Int32) (H : Heap) (locs : List Loc) (ls : Array Slot), JX9_draw_234 LA LE CE a4 a5 mdr mDR = some res → va_P (gD G) vwCl (wMod G h0 qDR qLA qLE qCE qFI qCO qCR qSI qSR qMO qBO qPX qPY qPZ qSX mdr bo po sx sy sw tx ty tz mDR LA LE CE FI CO CR SI SR MO BO PX PY PZ SX) H → va_D A (wMod G h0 qDR qLA qLE qCE qFI qCO qCR qSI qSR qMO qBO qPX qPY qPZ qSX mdr bo po sx sy sw tx ty tz mDR LA LE CE FI CO CR SI SR MO BO PX PY PZ SX) → va_S A s.heap H locs → lv_has ls 8 [(0, .ref h0), (4, .int a4), (5, .int a5)] → W p l e (headSpec wsX9_draw rX9_draw).room s m ([.ref h0, .int p1, .int p2, .int p3] : List Value).toArray below meth c H locs 0 0 (MQ below (va_Qi (fun (r : Int32) (u : Int32 × (Nat → Int32)) => r = res.1 ∧ u = res.2) (fun u t => qW G A (wMod G h0 qDR qLA qLE qCE qFI qCO qCR qSI qSR qMO qBO qPX qPY qPZ qSX u.1 bo po sx sy sw tx ty tz u.2 LA LE CE FI CO CR SI SR MO BO PX PY PZ SX) t) A) ([.ref h0, .int p1, .int p2, .int p3] : List Value).toArray s 0 0 A) (F0 m 234 ls []) := by
    intro a4 a5 mdr mDR H locs ls hF hP hD hS hl
    unfold JX9_draw_234 at hF
    refine lv_aload_n hx hb dX9_draw_234 rfl (lv_at hl 0 rfl) ?_
    refine lv_iload hx hb dX9_draw_235 (lv_at hl 2 rfl) ?_
    refine lv_if_ge (tgt := 245) hx hb dX9_draw_237 (by decide) (fun c_11 => ?_) (fun c_11 => ?_)
    · replace hF := it_p c_11 hF
      refine lv_aload_n hx hb dX9_draw_245 rfl (lv_at hl 0 rfl) ?_
      refine va_get (ci := 9) (v := .int mdr) (C := RX9) (T := TX9) (N := 24) hx hb hts hin9 hown hK hP 0 rfl rfl 0 (by decide) hfl64 (fun _ h9 => h9) rfl dX9_draw_246 ?_
      exact hJ249 a5 mdr mdr mDR _ _ _ hF hP hD hS (lv_sub hl [0, 2] rfl)
    · replace hF := it_n c_11 hF
      refine lv_iload hx hb dX9_draw_240 (lv_at hl 1 rfl) ?_
      refine lv_goto (tgt := 249) hx hb dX9_draw_242 (by decide) ?_
      exact hJ249 a5 a4 mdr mDR _ _ _ hF hP hD hS (lv_sub hl [0, 2] rfl)
  have hJ228 : ∀ (k69 : Int32 → Int32 → Int32 → Int32 → Int32 → Int32 → (Nat → Int32) → Option (Int32 × Int32 × (Nat → Int32))), (∀ (a1 : Int32) (a3 : Int32) (a4 : Int32) (a5 : Int32) (a6 : Int32) (mdr : Int32) (mDR : Nat → Int32) (H : Heap) (locs : List Loc) (ls : Array Slot), k69 a1 a3 a4 a5 a6 mdr mDR = some res → va_P (gD G) vwCl (wMod G h0 qDR qLA qLE qCE qFI qCO qCR qSI qSR qMO qBO qPX qPY qPZ qSX mdr bo po sx sy sw tx ty tz mDR LA LE CE FI CO CR SI SR MO BO PX PY PZ SX) H → va_D A (wMod G h0 qDR qLA qLE qCE qFI qCO qCR qSI qSR qMO qBO qPX qPY qPZ qSX mdr bo po sx sy sw tx ty tz mDR LA LE CE FI CO CR SI SR MO BO PX PY PZ SX) → va_S A s.heap H locs → lv_has ls 8 [(0, .ref h0), (1, .int a1), (3, .int a3), (4, .int a4), (5, .int a5), (6, .int a6)] → W p l e (headSpec wsX9_draw rX9_draw).room s m ([.ref h0, .int p1, .int p2, .int p3] : List Value).toArray below meth c H locs 0 0 (MQ below (va_Qi (fun (r : Int32) (u : Int32 × (Nat → Int32)) => r = res.1 ∧ u = res.2) (fun u t => qW G A (wMod G h0 qDR qLA qLE qCE qFI qCO qCR qSI qSR qMO qBO qPX qPY qPZ qSX u.1 bo po sx sy sw tx ty tz u.2 LA LE CE FI CO CR SI SR MO BO PX PY PZ SX) t) A) ([.ref h0, .int p1, .int p2, .int p3] : List Value).toArray s 0 0 A) (F0 m 69 ls [])) → ∀ (a1 : Int32) (a3 : Int32) (a4 : Int32) (a5 : Int32) (a6 : Int32) (mdr : Int32) (mDR : Nat → Int32) (H : Heap) (locs : List Loc) (ls : Array Slot), JX9_draw_228 LA LE CE k69 a1 a3 a4 a5 a6 mdr mDR = some res → va_P (gD G) vwCl (wMod G h0 qDR qLA qLE qCE qFI qCO qCR qSI qSR qMO qBO qPX qPY qPZ qSX mdr bo po sx sy sw tx ty tz mDR LA LE CE FI CO CR SI SR MO BO PX PY PZ SX) H → va_D A (wMod G h0 qDR qLA qLE qCE qFI qCO qCR qSI qSR qMO qBO qPX qPY qPZ qSX mdr bo po sx sy sw tx ty tz mDR LA LE CE FI CO CR SI SR MO BO PX PY PZ SX) → va_S A s.heap H locs → lv_has ls 8 [(0, .ref h0), (1, .int a1), (3, .int a3), (4, .int a4), (5, .int a5), (6, .int a6)] → W p l e (headSpec wsX9_draw rX9_draw).room s m ([.ref h0, .int p1, .int p2, .int p3] : List Value).toArray below meth c H locs 0 0 (MQ below (va_Qi (fun (r : Int32) (u : Int32 × (Nat → Int32)) => r = res.1 ∧ u = res.2) (fun u t => qW G A (wMod G h0 qDR qLA qLE qCE qFI qCO qCR qSI qSR qMO qBO qPX qPY qPZ qSX u.1 bo po sx sy sw tx ty tz u.2 LA LE CE FI CO CR SI SR MO BO PX PY PZ SX) t) A) ([.ref h0, .int p1, .int p2, .int p3] : List Value).toArray s 0 0 A) (F0 m 228 ls []) := by
    intro k69 hk69
    intro a1 a3 a4 a5 a6 mdr mDR H locs ls hF hP hD hS hl
    unfold JX9_draw_228 at hF
    refine lv_iinc (v := a6 + 1) (lv' := [(6, .int (a6 + 1)), (0, .ref h0), (1, .int a1), (3, .int a3), (4, .int a4), (5, .int a5)]) hx hb dX9_draw_228 hl (k := 5) rfl rfl (by decide) rfl (fun ls hl => ?_)
    refine lv_goto (tgt := 69) hx hb dX9_draw_231 (by decide) ?_
    exact hk69 a1 a3 a4 a5 (a6 + 1) mdr mDR _ _ _ hF hP hD hS (lv_sub hl [1, 2, 3, 4, 5, 0] rfl)
  have hJ174 : ∀ (k69 : Int32 → Int32 → Int32 → Int32 → Int32 → Int32 → (Nat → Int32) → Option (Int32 × Int32 × (Nat → Int32))), (∀ (a1 : Int32) (a3 : Int32) (a4 : Int32) (a5 : Int32) (a6 : Int32) (mdr : Int32) (mDR : Nat → Int32) (H : Heap) (locs : List Loc) (ls : Array Slot), k69 a1 a3 a4 a5 a6 mdr mDR = some res → va_P (gD G) vwCl (wMod G h0 qDR qLA qLE qCE qFI qCO qCR qSI qSR qMO qBO qPX qPY qPZ qSX mdr bo po sx sy sw tx ty tz mDR LA LE CE FI CO CR SI SR MO BO PX PY PZ SX) H → va_D A (wMod G h0 qDR qLA qLE qCE qFI qCO qCR qSI qSR qMO qBO qPX qPY qPZ qSX mdr bo po sx sy sw tx ty tz mDR LA LE CE FI CO CR SI SR MO BO PX PY PZ SX) → va_S A s.heap H locs → lv_has ls 8 [(0, .ref h0), (1, .int a1), (3, .int a3), (4, .int a4), (5, .int a5), (6, .int a6)] → W p l e (headSpec wsX9_draw rX9_draw).room s m ([.ref h0, .int p1, .int p2, .int p3] : List Value).toArray below meth c H locs 0 0 (MQ below (va_Qi (fun (r : Int32) (u : Int32 × (Nat → Int32)) => r = res.1 ∧ u = res.2) (fun u t => qW G A (wMod G h0 qDR qLA qLE qCE qFI qCO qCR qSI qSR qMO qBO qPX qPY qPZ qSX u.1 bo po sx sy sw tx ty tz u.2 LA LE CE FI CO CR SI SR MO BO PX PY PZ SX) t) A) ([.ref h0, .int p1, .int p2, .int p3] : List Value).toArray s 0 0 A) (F0 m 69 ls [])) → ∀ (a1 : Int32) (a3 : Int32) (a4 : Int32) (a6 : Int32) (mdr : Int32) (mDR : Nat → Int32) (H : Heap) (locs : List Loc) (ls : Array Slot), JX9_draw_174 LA LE CE k69 a1 a3 a4 a6 mdr mDR = some res → va_P (gD G) vwCl (wMod G h0 qDR qLA qLE qCE qFI qCO qCR qSI qSR qMO qBO qPX qPY qPZ qSX mdr bo po sx sy sw tx ty tz mDR LA LE CE FI CO CR SI SR MO BO PX PY PZ SX) H → va_D A (wMod G h0 qDR qLA qLE qCE qFI qCO qCR qSI qSR qMO qBO qPX qPY qPZ qSX mdr bo po sx sy sw tx ty tz mDR LA LE CE FI CO CR SI SR MO BO PX PY PZ SX) → va_S A s.heap H locs → lv_has ls 8 [(0, .ref h0), (1, .int a1), (3, .int a3), (4, .int a4), (6, .int a6)] → W p l e (headSpec wsX9_draw rX9_draw).room s m ([.ref h0, .int p1, .int p2, .int p3] : List Value).toArray below meth c H locs 0 0 (MQ below (va_Qi (fun (r : Int32) (u : Int32 × (Nat → Int32)) => r = res.1 ∧ u = res.2) (fun u t => qW G A (wMod G h0 qDR qLA qLE qCE qFI qCO qCR qSI qSR qMO qBO qPX qPY qPZ qSX u.1 bo po sx sy sw tx ty tz u.2 LA LE CE FI CO CR SI SR MO BO PX PY PZ SX) t) A) ([.ref h0, .int p1, .int p2, .int p3] : List Value).toArray s 0 0 A) (F0 m 174 ls []) := by
    intro k69 hk69
    intro a1 a3 a4 a6 mdr mDR H locs ls hF hP hD hS hl
    unfold JX9_draw_174 at hF
    refine lv_iconst (v := (-1)) hx hb dX9_draw_174 (by decide) ?_
    refine lv_istore (lv' := [(5, .int (-1)), (0, .ref h0), (1, .int a1), (3, .int a3), (4, .int a4), (6, .int a6)]) hx hb dX9_draw_175 hl (by decide) rfl (fun ls hl => ?_)
    refine lv_goto (tgt := 228) hx hb dX9_draw_177 (by decide) ?_
    exact hJ228 _ hk69 a1 a3 a4 (-1) a6 mdr mDR _ _ _ hF hP hD hS (lv_sub hl [1, 2, 3, 4, 0, 5] rfl)
  have hL69 : ∀ (k : Nat), ∀ (a1 : Int32) (a3 : Int32) (a4 : Int32) (a5 : Int32) (a6 : Int32) (mdr : Int32) (mDR : Nat → Int32) (H : Heap) (locs : List Loc) (ls : Array Slot), LX9_draw_69 LA LE CE k a1 a3 a4 a5 a6 mdr mDR = some res → va_P (gD G) vwCl (wMod G h0 qDR qLA qLE qCE qFI qCO qCR qSI qSR qMO qBO qPX qPY qPZ qSX mdr bo po sx sy sw tx ty tz mDR LA LE CE FI CO CR SI SR MO BO PX PY PZ SX) H → va_D A (wMod G h0 qDR qLA qLE qCE qFI qCO qCR qSI qSR qMO qBO qPX qPY qPZ qSX mdr bo po sx sy sw tx ty tz mDR LA LE CE FI CO CR SI SR MO BO PX PY PZ SX) → va_S A s.heap H locs → lv_has ls 8 [(0, .ref h0), (1, .int a1), (3, .int a3), (4, .int a4), (5, .int a5), (6, .int a6)] → W p l e (headSpec wsX9_draw rX9_draw).room s m ([.ref h0, .int p1, .int p2, .int p3] : List Value).toArray below meth c H locs 0 0 (MQ below (va_Qi (fun (r : Int32) (u : Int32 × (Nat → Int32)) => r = res.1 ∧ u = res.2) (fun u t => qW G A (wMod G h0 qDR qLA qLE qCE qFI qCO qCR qSI qSR qMO qBO qPX qPY qPZ qSX u.1 bo po sx sy sw tx ty tz u.2 LA LE CE FI CO CR SI SR MO BO PX PY PZ SX) t) A) ([.ref h0, .int p1, .int p2, .int p3] : List Value).toArray s 0 0 A) (F0 m 69 ls []) := by
    intro k
    induction k with
    | zero =>
      intro a1 a3 a4 a5 a6 mdr mDR H locs ls hF hP hD hS hl
      rw [LX9_draw_69] at hF
      cases hF
    | succ k ih =>
      intro a1 a3 a4 a5 a6 mdr mDR H locs ls hF hP hD hS hl
      rw [LX9_draw_69] at hF
      refine lv_iload hx hb dX9_draw_69 (lv_at hl 5 rfl) ?_
      refine lv_iload_n hx hb dX9_draw_71 rfl (lv_at hl 2 rfl) ?_
      refine lv_icmp_ge (tgt := 234) hx hb dX9_draw_72 (by decide) (fun c_10 => ?_) (fun c_10 => ?_)
      · replace hF := it_p c_10 hF
        exact hJ234 a4 a5 mdr mDR _ _ _ hF hP hD hS (lv_sub hl [0, 3, 4] rfl)
      · replace hF := it_n c_10 hF
        refine lv_iload hx hb dX9_draw_75 (lv_at hl 4 rfl) ?_
        refine lv_if_ne (tgt := 234) hx hb dX9_draw_77 (by decide) (fun c_13 => ?_) (fun c_13 => ?_)
        · replace hF := it_n c_13 hF
          exact hJ234 a4 a5 mdr mDR _ _ _ hF hP hD hS (lv_sub hl [0, 3, 4] rfl)
        · replace hF := it_p c_13 hF
          refine lv_bipush (v := 36) hx hb dX9_draw_80 (by decide) ?_
          refine lv_iload_n hx hb dX9_draw_82 rfl (lv_at hl 1 rfl) ?_
          refine lv_imul hx hb dX9_draw_83 ?_
          refine lv_iconst (v := 3) hx hb dX9_draw_84 (by decide) ?_
          refine lv_iload hx hb dX9_draw_85 (lv_at hl 5 rfl) ?_
          refine lv_imul hx hb dX9_draw_87 ?_
          refine lv_iadd hx hb dX9_draw_88 ?_
          refine lv_istore (lv' := [(7, .int ((36 * a1) + (3 * a6))), (0, .ref h0), (1, .int a1), (3, .int a3), (4, .int a4), (5, .int a5), (6, .int a6)]) hx hb dX9_draw_89 hl (by decide) rfl (fun ls hl => ?_)
          refine lv_iconst (v := 3) hx hb dX9_draw_91 (by decide) ?_
          refine lv_iload hx hb dX9_draw_92 (lv_at hl 6 rfl) ?_
          refine lv_imul hx hb dX9_draw_94 ?_
          refine lv_iconst (v := 2) hx hb dX9_draw_95 (by decide) ?_
          refine lv_iadd hx hb dX9_draw_96 ?_
          refine lv_aload_n hx hb dX9_draw_97 rfl (lv_at hl 1 rfl) ?_
          refine va_get (ci := 9) (v := .ref qLE) (C := RX9) (T := TX9) (N := 24) hx hb hts hin9 hown hK hP 0 rfl rfl 3 (by decide) hfl16 (fun _ h9 => h9) rfl dX9_draw_98 ?_
          refine lv_iload_n hx hb dX9_draw_101 rfl (lv_at hl 2 rfl) ?_
          obtain ⟨hi_14, hF⟩ := gd_in_s hF
          refine va_iald hx hb hK hP 3 0 rfl rfl hi_14 dX9_draw_102 ?_
          refine lv_icmp_lt (tgt := 113) hx hb dX9_draw_103 (by decide) (fun c_15 => ?_) (fun c_15 => ?_)
          · replace hF := it_p c_15 hF
            refine lv_aload_n hx hb dX9_draw_113 rfl (lv_at hl 1 rfl) ?_
            refine va_get (ci := 9) (v := .ref qCE) (C := RX9) (T := TX9) (N := 24) hx hb hts hin9 hown hK hP 0 rfl rfl 4 (by decide) hfl19 (fun _ h9 => h9) rfl dX9_draw_114 ?_
            refine lv_iload hx hb dX9_draw_117 (lv_at hl 0 rfl) ?_
            obtain ⟨hi_16, hF⟩ := gd_in_s hF
            refine va_lald hx hb hK hP 4 1 rfl rfl hi_16 dX9_draw_119 ?_
            refine lv_ldc2 (v := (-5)) hx hb hown hcn56 dX9_draw_120 ?_
            refine lv_ldc2 (v := 5) hx hb hown hcn58 dX9_draw_123 ?_
            obtain ⟨v_17, hv_17, hF⟩ := bd_s hF
            refine ro_ze (va_runS (As := [.long (CE ((36 * a1) + (3 * a6)).toNatClampNeg), .long (-5), .long 5]) (rest := []) ⟨hx, hb, hml, hown, hts⟩ (kX9_in l G (CE ((36 * a1) + (3 * a6)).toNatClampNeg) (-5) 5 v_17 hv_17) (va_cwS 3 hts gX9_draw_X9_in rfl rfl rfl (by decide +kernel) ⟨Nat.le_of_ble_eq_true rfl, Nat.le_of_ble_eq_true rfl⟩) (psR hK (hP.sub (ws' := ([] : va_W)) [] rfl)) rfl rfl hl.1 rfl (lv_room (Nat.le_of_ble_eq_true rfl)) dX9_draw_126 ⟨Nat.le_of_ble_eq_true rfl, Nat.le_of_ble_eq_true rfl⟩) (fun hb_18 => ?_)
            refine lv_if_eq (tgt := 174) hx hb dX9_draw_129 (by decide) (fun c_19 => ?_) (fun c_19 => ?_)
            · replace hF := it_p c_19 hF
              exact hJ174 _ ih a1 a3 a4 a6 mdr mDR _ _ _ hF hP hD hS (lv_sub hl [1, 2, 3, 4, 6] rfl)
            · replace hF := it_n c_19 hF
              refine lv_aload_n hx hb dX9_draw_132 rfl (lv_at hl 1 rfl) ?_
              refine va_get (ci := 9) (v := .ref qCE) (C := RX9) (T := TX9) (N := 24) hx hb hts hin9 hown hK hP 0 rfl rfl 4 (by decide) hfl19 (fun _ h9 => h9) rfl dX9_draw_133 ?_
              refine lv_iload hx hb dX9_draw_136 (lv_at hl 0 rfl) ?_
              refine lv_iconst (v := 1) hx hb dX9_draw_138 (by decide) ?_
              refine lv_iadd hx hb dX9_draw_139 ?_
              obtain ⟨hi_20, hF⟩ := gd_in_s hF
              refine va_lald hx hb hK hP 4 1 rfl rfl hi_20 dX9_draw_140 ?_
              refine lv_ldc2 (v := (-5)) hx hb hown hcn56 dX9_draw_141 ?_
              refine lv_ldc2 (v := 5) hx hb hown hcn58 dX9_draw_144 ?_
              obtain ⟨v_21, hv_21, hF⟩ := bd_s hF
              refine ro_ze (va_runS (As := [.long (CE (((36 * a1) + (3 * a6)) + 1).toNatClampNeg), .long (-5), .long 5]) (rest := []) ⟨hx, hb, hml, hown, hts⟩ (kX9_in l G (CE (((36 * a1) + (3 * a6)) + 1).toNatClampNeg) (-5) 5 v_21 hv_21) (va_cwS 3 hts gX9_draw_X9_in rfl rfl rfl (by decide +kernel) ⟨Nat.le_of_ble_eq_true rfl, Nat.le_of_ble_eq_true rfl⟩) (psR hK (hP.sub (ws' := ([] : va_W)) [] rfl)) rfl rfl hl.1 rfl (lv_room (Nat.le_of_ble_eq_true rfl)) dX9_draw_147 ⟨Nat.le_of_ble_eq_true rfl, Nat.le_of_ble_eq_true rfl⟩) (fun hb_22 => ?_)
              refine lv_if_eq (tgt := 174) hx hb dX9_draw_150 (by decide) (fun c_23 => ?_) (fun c_23 => ?_)
              · replace hF := it_p c_23 hF
                exact hJ174 _ ih a1 a3 a4 a6 mdr mDR _ _ _ hF hP hD hS (lv_sub hl [1, 2, 3, 4, 6] rfl)
              · replace hF := it_n c_23 hF
                refine lv_aload_n hx hb dX9_draw_153 rfl (lv_at hl 1 rfl) ?_
                refine va_get (ci := 9) (v := .ref qCE) (C := RX9) (T := TX9) (N := 24) hx hb hts hin9 hown hK hP 0 rfl rfl 4 (by decide) hfl19 (fun _ h9 => h9) rfl dX9_draw_154 ?_
                refine lv_iload hx hb dX9_draw_157 (lv_at hl 0 rfl) ?_
                refine lv_iconst (v := 2) hx hb dX9_draw_159 (by decide) ?_
                refine lv_iadd hx hb dX9_draw_160 ?_
                obtain ⟨hi_24, hF⟩ := gd_in_s hF
                refine va_lald hx hb hK hP 4 1 rfl rfl hi_24 dX9_draw_161 ?_
                refine lv_ldc2 (v := (-5)) hx hb hown hcn56 dX9_draw_162 ?_
                refine lv_ldc2 (v := 5) hx hb hown hcn58 dX9_draw_165 ?_
                obtain ⟨v_25, hv_25, hF⟩ := bd_s hF
                refine ro_ze (va_runS (As := [.long (CE (((36 * a1) + (3 * a6)) + 2).toNatClampNeg), .long (-5), .long 5]) (rest := []) ⟨hx, hb, hml, hown, hts⟩ (kX9_in l G (CE (((36 * a1) + (3 * a6)) + 2).toNatClampNeg) (-5) 5 v_25 hv_25) (va_cwS 3 hts gX9_draw_X9_in rfl rfl rfl (by decide +kernel) ⟨Nat.le_of_ble_eq_true rfl, Nat.le_of_ble_eq_true rfl⟩) (psR hK (hP.sub (ws' := ([] : va_W)) [] rfl)) rfl rfl hl.1 rfl (lv_room (Nat.le_of_ble_eq_true rfl)) dX9_draw_168 ⟨Nat.le_of_ble_eq_true rfl, Nat.le_of_ble_eq_true rfl⟩) (fun hb_26 => ?_)
                refine lv_if_ne (tgt := 180) hx hb dX9_draw_171 (by decide) (fun c_27 => ?_) (fun c_27 => ?_)
                · replace hF := it_n c_27 hF
                  refine lv_aload_n hx hb dX9_draw_180 rfl (lv_at hl 1 rfl) ?_
                  refine va_get (ci := 9) (v := .int mdr) (C := RX9) (T := TX9) (N := 24) hx hb hts hin9 hown hK hP 0 rfl rfl 0 (by decide) hfl64 (fun _ h9 => h9) rfl dX9_draw_181 ?_
                  refine lv_bipush (v := 12) hx hb dX9_draw_184 (by decide) ?_
                  refine lv_icmp_ne (tgt := 196) hx hb dX9_draw_186 (by decide) (fun c_28 => ?_) (fun c_28 => ?_)
                  · replace hF := it_n c_28 hF
                    refine lv_aload_n hx hb dX9_draw_196 rfl (lv_at hl 1 rfl) ?_
                    refine lv_aload_n hx hb dX9_draw_197 rfl (lv_at hl 1 rfl) ?_
                    refine va_get (ci := 9) (v := .ref qCE) (C := RX9) (T := TX9) (N := 24) hx hb hts hin9 hown hK hP 0 rfl rfl 4 (by decide) hfl19 (fun _ h9 => h9) rfl dX9_draw_198 ?_
                    refine lv_iload hx hb dX9_draw_201 (lv_at hl 0 rfl) ?_
                    refine va_lald hx hb hK hP 4 1 rfl rfl hi_16 dX9_draw_203 ?_
                    refine lv_l2i hx hb dX9_draw_204 rfl ?_
                    refine lv_aload_n hx hb dX9_draw_205 rfl (lv_at hl 1 rfl) ?_
                    refine va_get (ci := 9) (v := .ref qCE) (C := RX9) (T := TX9) (N := 24) hx hb hts hin9 hown hK hP 0 rfl rfl 4 (by decide) hfl19 (fun _ h9 => h9) rfl dX9_draw_206 ?_
                    refine lv_iload hx hb dX9_draw_209 (lv_at hl 0 rfl) ?_
                    refine lv_iconst (v := 1) hx hb dX9_draw_211 (by decide) ?_
                    refine lv_iadd hx hb dX9_draw_212 ?_
                    refine va_lald hx hb hK hP 4 1 rfl rfl hi_20 dX9_draw_213 ?_
                    refine lv_l2i hx hb dX9_draw_214 rfl ?_
                    refine lv_aload_n hx hb dX9_draw_215 rfl (lv_at hl 1 rfl) ?_
                    refine va_get (ci := 9) (v := .ref qCE) (C := RX9) (T := TX9) (N := 24) hx hb hts hin9 hown hK hP 0 rfl rfl 4 (by decide) hfl19 (fun _ h9 => h9) rfl dX9_draw_216 ?_
                    refine lv_iload hx hb dX9_draw_219 (lv_at hl 0 rfl) ?_
                    refine lv_iconst (v := 2) hx hb dX9_draw_221 (by decide) ?_
                    refine lv_iadd hx hb dX9_draw_222 ?_
                    refine va_lald hx hb hK hP 4 1 rfl rfl hi_24 dX9_draw_223 ?_
                    refine lv_l2i hx hb dX9_draw_224 rfl ?_
                    obtain ⟨v_29, hv_29, hF⟩ := bd_s hF
                    refine rw_ve (wf := (fun (u : Int32 × (Nat → Int32)) => (wMod G h0 qDR qLA qLE qCE qFI qCO qCR qSI qSR qMO qBO qPX qPY qPZ qSX u.1 bo po sx sy sw tx ty tz u.2 LA LE CE FI CO CR SI SR MO BO PX PY PZ SX))) (wr := []) (va_runV (As := [.int ((CE ((36 * a1) + (3 * a6)).toNatClampNeg).toInt32), .int ((CE (((36 * a1) + (3 * a6)) + 1).toNatClampNeg).toInt32), .int ((CE (((36 * a1) + (3 * a6)) + 2).toNatClampNeg).toInt32)]) (rest := []) ⟨hx, hb, hml, hown, hts⟩ (kX9_put l G h0 qDR qLA qLE qCE qFI qCO qCR qSI qSR qMO qBO qPX qPY qPZ qSX H.size mdr bo po sx sy sw tx ty tz mDR LA LE CE FI CO CR SI SR MO BO PX PY PZ SX ((CE ((36 * a1) + (3 * a6)).toNatClampNeg).toInt32) ((CE (((36 * a1) + (3 * a6)) + 1).toNatClampNeg).toInt32) ((CE (((36 * a1) + (3 * a6)) + 2).toNatClampNeg).toInt32) v_29 hv_29) (cwV 3 hts gX9_draw_X9_put rfl rfl rfl (by decide +kernel) ⟨Nat.le_of_ble_eq_true rfl, Nat.le_of_ble_eq_true rfl⟩) (pvW (q0 := 0) 9 hK (hP.sub (ws' := (wMod G h0 qDR qLA qLE qCE qFI qCO qCR qSI qSR qMO qBO qPX qPY qPZ qSX mdr bo po sx sy sw tx ty tz mDR LA LE CE FI CO CR SI SR MO BO PX PY PZ SX)) [0, 1, 2, 3, 4, 5, 6, 7, 8, 9, 10, 11, 12, 13, 14, 15] rfl) (hD.sub (ws' := (wMod G h0 qDR qLA qLE qCE qFI qCO qCR qSI qSR qMO qBO qPX qPY qPZ qSX mdr bo po sx sy sw tx ty tz mDR LA LE CE FI CO CR SI SR MO BO PX PY PZ SX)) [0, 1, 2, 3, 4, 5, 6, 7, 8, 9, 10, 11, 12, 13, 14, 15] (by decide) rfl) rfl rfl) rfl rfl hl.1 rfl (lv_room (Nat.le_of_ble_eq_true rfl)) dX9_draw_225 ⟨Nat.le_of_ble_eq_true rfl, Nat.le_of_ble_eq_true rfl⟩) hP hD hS hA [0, 1, 2, 3, 4, 5, 6, 7, 8, 9, 10, 11, 12, 13, 14, 15] [] rfl rfl (by decide) (by decide) (fun H locs  hP hD hS => ?_)
                    have hP : va_P (gD G) vwCl (wMod G h0 qDR qLA qLE qCE qFI qCO qCR qSI qSR qMO qBO qPX qPY qPZ qSX v_29.1 bo po sx sy sw tx ty tz v_29.2 LA LE CE FI CO CR SI SR MO BO PX PY PZ SX) H := hP.sub [0, 1, 2, 3, 4, 5, 6, 7, 8, 9, 10, 11, 12, 13, 14, 15] rfl
                    have hD : va_D A (wMod G h0 qDR qLA qLE qCE qFI qCO qCR qSI qSR qMO qBO qPX qPY qPZ qSX v_29.1 bo po sx sy sw tx ty tz v_29.2 LA LE CE FI CO CR SI SR MO BO PX PY PZ SX) := hD.sub [0, 1, 2, 3, 4, 5, 6, 7, 8, 9, 10, 11, 12, 13, 14, 15] (by decide) rfl
                    exact hJ228 _ ih a1 a3 a4 a5 a6 v_29.1 v_29.2 _ _ _ hF hP hD hS (lv_sub hl [1, 2, 3, 4, 5, 6] rfl)
                  · replace hF := it_p c_28 hF
                    refine lv_bipush (v := (-3)) hx hb dX9_draw_189 (by decide) ?_
                    refine lv_istore (lv' := [(5, .int (-3)), (7, .int ((36 * a1) + (3 * a6))), (0, .ref h0), (1, .int a1), (3, .int a3), (4, .int a4), (6, .int a6)]) hx hb dX9_draw_191 hl (by decide) rfl (fun ls hl => ?_)
                    refine lv_goto (tgt := 228) hx hb dX9_draw_193 (by decide) ?_
                    exact hJ228 _ ih a1 a3 a4 (-3) a6 mdr mDR _ _ _ hF hP hD hS (lv_sub hl [2, 3, 4, 5, 0, 6] rfl)
                · replace hF := it_p c_27 hF
                  exact hJ174 _ ih a1 a3 a4 a6 mdr mDR _ _ _ hF hP hD hS (lv_sub hl [1, 2, 3, 4, 6] rfl)
          · replace hF := it_n c_15 hF
            refine lv_bipush (v := (-12)) hx hb dX9_draw_106 (by decide) ?_
            refine lv_istore (lv' := [(5, .int (-12)), (7, .int ((36 * a1) + (3 * a6))), (0, .ref h0), (1, .int a1), (3, .int a3), (4, .int a4), (6, .int a6)]) hx hb dX9_draw_108 hl (by decide) rfl (fun ls hl => ?_)
            refine lv_goto (tgt := 228) hx hb dX9_draw_110 (by decide) ?_
            exact hJ228 _ ih a1 a3 a4 (-12) a6 mdr mDR _ _ _ hF hP hD hS (lv_sub hl [2, 3, 4, 5, 0, 6] rfl)
  unfold fX9_draw at hF
  refine lv_iload_n hx hb dX9_draw_0 rfl (lv_at hl 1 rfl) ?_
  refine lv_i2l hx hb dX9_draw_1 rfl ?_
  refine lv_lconst (v := 0) hx hb dX9_draw_2 (by decide) ?_
  refine lv_ldc2 (v := 3) hx hb hown hcn72 dX9_draw_3 ?_
  obtain ⟨v_1, hv_1, hF⟩ := bd_s hF
  refine ro_ze (va_runS (As := [.long p1.toInt64, .long 0, .long 3]) (rest := []) ⟨hx, hb, hml, hown, hts⟩ (kX9_in l G p1.toInt64 0 3 v_1 hv_1) (va_cwS 3 hts gX9_draw_X9_in rfl rfl rfl (by decide +kernel) ⟨Nat.le_of_ble_eq_true rfl, Nat.le_of_ble_eq_true rfl⟩) (psR hK (hP.sub (ws' := ([] : va_W)) [] rfl)) rfl rfl hl.1 rfl (lv_room (Nat.le_of_ble_eq_true rfl)) dX9_draw_6 ⟨Nat.le_of_ble_eq_true rfl, Nat.le_of_ble_eq_true rfl⟩) (fun hb_2 => ?_)
  refine lv_if_eq (tgt := 26) hx hb dX9_draw_9 (by decide) (fun c_3 => ?_) (fun c_3 => ?_)
  · replace hF := it_p c_3 hF
    refine lv_iconst (v := (-1)) hx hb dX9_draw_26 (by decide) ?_
    exact W.iret (v := (-1)) hx hb hr  (fun t ht hW => ⟨⟨(-1), (dr, DR), rfl, ⟨congrArg Prod.fst (so_e hF), congrArg Prod.snd (so_e hF)⟩, qW_mk ht hP hK hW hD⟩, hS.F ht⟩) hS.2.2 dX9_draw_27
  · replace hF := it_n c_3 hF
    refine lv_iload_n hx hb dX9_draw_12 rfl (lv_at hl 2 rfl) ?_
    refine lv_i2l hx hb dX9_draw_13 rfl ?_
    refine lv_lconst (v := 0) hx hb dX9_draw_14 (by decide) ?_
    refine lv_lconst (v := 1) hx hb dX9_draw_15 (by decide) ?_
    obtain ⟨v_4, hv_4, hF⟩ := bd_s hF
    refine ro_ze (va_runS (As := [.long p2.toInt64, .long 0, .long 1]) (rest := []) ⟨hx, hb, hml, hown, hts⟩ (kX9_in l G p2.toInt64 0 1 v_4 hv_4) (va_cwS 3 hts gX9_draw_X9_in rfl rfl rfl (by decide +kernel) ⟨Nat.le_of_ble_eq_true rfl, Nat.le_of_ble_eq_true rfl⟩) (psR hK (hP.sub (ws' := ([] : va_W)) [] rfl)) rfl rfl hl.1 rfl (lv_room (Nat.le_of_ble_eq_true rfl)) dX9_draw_16 ⟨Nat.le_of_ble_eq_true rfl, Nat.le_of_ble_eq_true rfl⟩) (fun hb_5 => ?_)
    refine lv_if_eq (tgt := 26) hx hb dX9_draw_19 (by decide) (fun c_6 => ?_) (fun c_6 => ?_)
    · replace hF := it_p c_6 hF
      refine lv_iconst (v := (-1)) hx hb dX9_draw_26 (by decide) ?_
      exact W.iret (v := (-1)) hx hb hr  (fun t ht hW => ⟨⟨(-1), (dr, DR), rfl, ⟨congrArg Prod.fst (so_e hF), congrArg Prod.snd (so_e hF)⟩, qW_mk ht hP hK hW hD⟩, hS.F ht⟩) hS.2.2 dX9_draw_27
    · replace hF := it_n c_6 hF
      refine lv_iload_n hx hb dX9_draw_22 rfl (lv_at hl 3 rfl) ?_
      refine lv_if_ge (tgt := 28) hx hb dX9_draw_23 (by decide) (fun c_7 => ?_) (fun c_7 => ?_)
      · replace hF := it_p c_7 hF
        refine lv_aload_n hx hb dX9_draw_28 rfl (lv_at hl 0 rfl) ?_
        refine va_get (ci := 9) (v := .ref qLA) (C := RX9) (T := TX9) (N := 24) hx hb hts hin9 hown hK hP 0 rfl rfl 2 (by decide) hfl13 (fun _ h9 => h9) rfl dX9_draw_29 ?_
        refine lv_iload_n hx hb dX9_draw_32 rfl (lv_at hl 1 rfl) ?_
        obtain ⟨hi_8, hF⟩ := gd_in_s hF
        refine va_iald hx hb hK hP 2 0 rfl rfl hi_8 dX9_draw_33 ?_
        refine lv_iload_n hx hb dX9_draw_34 rfl (lv_at hl 2 rfl) ?_
        refine lv_icmp_eq (tgt := 57) hx hb dX9_draw_35 (by decide) (fun c_9 => ?_) (fun c_9 => ?_)
        · replace hF := it_p c_9 hF
          refine lv_aload_n hx hb dX9_draw_57 rfl (lv_at hl 0 rfl) ?_
          refine va_get (ci := 9) (v := .int dr) (C := RX9) (T := TX9) (N := 24) hx hb hts hin9 hown hK hP 0 rfl rfl 0 (by decide) hfl64 (fun _ h9 => h9) rfl dX9_draw_58 ?_
          refine lv_istore (lv' := [(4, .int dr), (0, .ref h0), (1, .int p1), (2, .int p2), (3, .int p3)]) hx hb dX9_draw_61 hl (by decide) rfl (fun ls hl => ?_)
          refine lv_iconst (v := 0) hx hb dX9_draw_63 (by decide) ?_
          refine lv_istore (lv' := [(5, .int 0), (4, .int dr), (0, .ref h0), (1, .int p1), (2, .int p2), (3, .int p3)]) hx hb dX9_draw_64 hl (by decide) rfl (fun ls hl => ?_)
          refine lv_iconst (v := 0) hx hb dX9_draw_66 (by decide) ?_
          refine lv_istore (lv' := [(6, .int 0), (5, .int 0), (4, .int dr), (0, .ref h0), (1, .int p1), (2, .int p2), (3, .int p3)]) hx hb dX9_draw_67 hl (by decide) rfl (fun ls hl => ?_)
          exact hL69 FU p1 p3 dr 0 0 dr DR _ _ _ hF hP hD hS (lv_sub hl [3, 4, 6, 2, 1, 0] rfl)
        · replace hF := it_n c_9 hF
          refine lv_aload_n hx hb dX9_draw_38 rfl (lv_at hl 0 rfl) ?_
          refine va_get (ci := 9) (v := .ref qLA) (C := RX9) (T := TX9) (N := 24) hx hb hts hin9 hown hK hP 0 rfl rfl 2 (by decide) hfl13 (fun _ h9 => h9) rfl dX9_draw_39 ?_
          refine lv_iload_n hx hb dX9_draw_42 rfl (lv_at hl 1 rfl) ?_
          refine va_iald hx hb hK hP 2 0 rfl rfl hi_8 dX9_draw_43 ?_
          refine lv_bipush (v := (-4)) hx hb dX9_draw_44 (by decide) ?_
          refine lv_icmp_ne (tgt := 54) hx hb dX9_draw_46 (by decide) (fun c_30 => ?_) (fun c_30 => ?_)
          · replace hF := it_n c_30 hF
            refine lv_bipush (v := (-13)) hx hb dX9_draw_54 (by decide) ?_
            exact W.iret (v := (-13)) hx hb hr  (fun t ht hW => ⟨⟨(-13), (dr, DR), rfl, ⟨congrArg Prod.fst (so_e hF), congrArg Prod.snd (so_e hF)⟩, qW_mk ht hP hK hW hD⟩, hS.F ht⟩) hS.2.2 dX9_draw_56
          · replace hF := it_p c_30 hF
            refine lv_bipush (v := (-11)) hx hb dX9_draw_49 (by decide) ?_
            refine lv_goto (tgt := 56) hx hb dX9_draw_51 (by decide) ?_
            exact W.iret (v := (-11)) hx hb hr  (fun t ht hW => ⟨⟨(-11), (dr, DR), rfl, ⟨congrArg Prod.fst (so_e hF), congrArg Prod.snd (so_e hF)⟩, qW_mk ht hP hK hW hD⟩, hS.F ht⟩) hS.2.2 dX9_draw_56
      · replace hF := it_n c_7 hF
        refine lv_iconst (v := (-1)) hx hb dX9_draw_26 (by decide) ?_
        exact W.iret (v := (-1)) hx hb hr  (fun t ht hW => ⟨⟨(-1), (dr, DR), rfl, ⟨congrArg Prod.fst (so_e hF), congrArg Prod.snd (so_e hF)⟩, qW_mk ht hP hK hW hD⟩, hS.F ht⟩) hS.2.2 dX9_draw_27
def fX9_clear (dr : Int32) : Option (Int32 × Int32) :=
  (some (dr, 0))
abbrev rX9_clear : Room := { frames := 0, cells := 0, slots := 0, locals := 0 }
set_option maxHeartbeats 40000000 in
set_option maxRecDepth 100000 in
theorem kX9_clear (l : Launch) (G : GT) (h0 qDR qLA qLE qCE qFI qCO qCR qSI qSR qMO qBO qPX qPY qPZ qSX : Nat) (sz : Nat) (dr : Int32) (bo : Int32) (po : Int32) (sx : Int32) (sy : Int32) (sw : Int32) (tx : Int32) (ty : Int32) (tz : Int32) (DR : Nat → Int32) (LA : Nat → Int32) (LE : Nat → Int32) (CE : Nat → Int64) (FI : Nat → Int32) (CO : Nat → Int32) (CR : Nat → Int32) (SI : Nat → Int32) (SR : Nat → Int32) (MO : Nat → Int32) (BO : Nat → Int32) (PX : Nat → Int32) (PY : Nat → Int32) (PZ : Nat → Int32) (SX : Nat → Int32) (res : Int32 × Int32) (hF : fX9_clear dr = some res) : Met l yX9_clear wsX9_clear rX9_clear (va_Pc [.ref h0] (pW G sz (wMod G h0 qDR qLA qLE qCE qFI qCO qCR qSI qSR qMO qBO qPX qPY qPZ qSX dr bo po sx sy sw tx ty tz DR LA LE CE FI CO CR SI SR MO BO PX PY PZ SX))) (va_Qi (fun (r : Int32) (u : Int32) => r = res.1 ∧ u = res.2) (fun u t => qW G (va_A (wMod G h0 qDR qLA qLE qCE qFI qCO qCR qSI qSR qMO qBO qPX qPY qPZ qSX dr bo po sx sy sw tx ty tz DR LA LE CE FI CO CR SI SR MO BO PX PY PZ SX) sz) (wMod G h0 qDR qLA qLE qCE qFI qCO qCR qSI qSR qMO qBO qPX qPY qPZ qSX u bo po sx sy sw tx ty tz DR LA LE CE FI CO CR SI SR MO BO PX PY PZ SX) t) (va_A (wMod G h0 qDR qLA qLE qCE qFI qCO qCR qSI qSR qMO qBO qPX qPY qPZ qSX dr bo po sx sy sw tx ty tz DR LA LE CE FI CO CR SI SR MO BO PX PY PZ SX) sz)) 0 0 (va_A (wMod G h0 qDR qLA qLE qCE qFI qCO qCR qSI qSR qMO qBO qPX qPY qPZ qSX dr bo po sx sy sw tx ty tz DR LA LE CE FI CO CR SI SR MO BO PX PY PZ SX) sz) := by
  refine Met.ofW (cc := cX9_clear) (maxL := 2) (ret := (some .int)) (by decide) rfl ?_
  intro p e s m args below meth c s₁ B hml hv
  obtain ⟨rfl, hsz, hP, hK, hD0⟩ := hv
  have hx := B.exec
  have hb := B.bytes
  have hr := B.returns
  have hts := atoms_spec (ws := wsX9_clear) B.pre
  have hown : s.vm.findClass RX9 = some m.cls := findClass_of_methodNamed B.named
  have hlocks := B.notSynchronized
  subst hsz
  have hD := hD0.self (sz := s.heap.size)
  generalize hAe : va_A (wMod G h0 qDR qLA qLE qCE qFI qCO qCR qSI qSR qMO qBO qPX qPY qPZ qSX dr bo po sx sy sw tx ty tz DR LA LE CE FI CO CR SI SR MO BO PX PY PZ SX) s.heap.size = A at hD ⊢
  have hA : ∀ q : Nat, s.heap.size ≤ q → A q := fun q h => by rw [← hAe]; exact Or.inr h
  have hS : va_S A s.heap s.heap [] := va_S.rf
  have hin9 : ∀ w ∈ u_ws RX9 TX9 24, w ∈ wsX9_clear := by decide +kernel
  have hfl64 := hts (.fieldLink RX9 64 "SwellBodiesModel" "drafted" "I") (by decide +kernel)
  have hl := lv_entry ([.ref h0]) (n := 2) (Nat.le_of_ble_eq_true rfl)
  rw [lg_entry_eq]
  generalize (lg_sl ([.ref h0]) ++ List.replicate (2 - (lg_sl ([.ref h0])).length) Slot.unset).toArray = ls at hl ⊢
  have hl : lv_has ls 2 [(0, .ref h0)] := hl
  unfold fX9_clear at hF
  refine lv_aload_n hx hb dX9_clear_0 rfl (lv_at hl 0 rfl) ?_
  refine va_get (ci := 9) (v := .int dr) (C := RX9) (T := TX9) (N := 24) hx hb hts hin9 hown hK hP 0 rfl rfl 0 (by decide) hfl64 (fun _ h9 => h9) rfl dX9_clear_1 ?_
  refine lv_istore_n (lv' := [(1, .int dr), (0, .ref h0)]) hx hb dX9_clear_4 rfl hl (by decide) rfl (fun ls hl => ?_)
  refine lv_aload_n hx hb dX9_clear_5 rfl (lv_at hl 1 rfl) ?_
  refine lv_iconst (v := 0) hx hb dX9_clear_6 (by decide) ?_
  refine va_put (ci := 9) (v := .int 0) (ty := .int) (C := RX9) (T := TX9) (N := 24) hx hb hts hin9 tyX9 tyX9_ok nmX9 hown hK hP hD hS 0 rfl rfl 0 (by decide) hfl64 (fun _ h9 => h9) rfl (by decide +kernel) rfl rfl (Nat.le_of_ble_eq_true rfl) dX9_clear_7 (fun H locs hP hD hS => ?_)
  have hP : va_P (gD G) vwCl (wMod G h0 qDR qLA qLE qCE qFI qCO qCR qSI qSR qMO qBO qPX qPY qPZ qSX 0 bo po sx sy sw tx ty tz DR LA LE CE FI CO CR SI SR MO BO PX PY PZ SX) H := hP
  have hD : va_D A (wMod G h0 qDR qLA qLE qCE qFI qCO qCR qSI qSR qMO qBO qPX qPY qPZ qSX 0 bo po sx sy sw tx ty tz DR LA LE CE FI CO CR SI SR MO BO PX PY PZ SX) := hD
  refine lv_iload_n hx hb dX9_clear_10 rfl (lv_at hl 0 rfl) ?_
  exact W.iret (v := dr) hx hb hr  (fun t ht hW => ⟨⟨dr, 0, rfl, ⟨congrArg Prod.fst (so_e hF), congrArg Prod.snd (so_e hF)⟩, qW_mk ht hP hK hW hD⟩, hS.F ht⟩) hS.2.2 dX9_clear_11
def fX9_isAfter (PX : Nat → Int32) (PY : Nat → Int32) (PZ : Nat → Int32) (p1 : Int32) (p2 : Int32) (p3 : Int32) (p4 : Int32) : Option (Int32) :=
  (gd_in p1 140 (if PX p1.toNatClampNeg = p2 then (if PY p1.toNatClampNeg = p3 then (if PZ p1.toNatClampNeg ≤ p4 then (some 0) else (some 1)) else (if PY p1.toNatClampNeg ≤ p3 then (some 0) else (some 1))) else (if PX p1.toNatClampNeg ≤ p2 then (some 0) else (some 1))))
abbrev rX9_isAfter : Room := { frames := 0, cells := 0, slots := 0, locals := 0 }
set_option maxHeartbeats 40000000 in
set_option maxRecDepth 100000 in
theorem kX9_isAfter (l : Launch) (G : GT) (h0 qDR qLA qLE qCE qFI qCO qCR qSI qSR qMO qBO qPX qPY qPZ qSX : Nat) (dr : Int32) (bo : Int32) (po : Int32) (sx : Int32) (sy : Int32) (sw : Int32) (tx : Int32) (ty : Int32) (tz : Int32) (DR : Nat → Int32) (LA : Nat → Int32) (LE : Nat → Int32) (CE : Nat → Int64) (FI : Nat → Int32) (CO : Nat → Int32) (CR : Nat → Int32) (SI : Nat → Int32) (SR : Nat → Int32) (MO : Nat → Int32) (BO : Nat → Int32) (PX : Nat → Int32) (PY : Nat → Int32) (PZ : Nat → Int32) (SX : Nat → Int32) (p1 : Int32) (p2 : Int32) (p3 : Int32) (p4 : Int32) (res : Int32) (hF : fX9_isAfter PX PY PZ p1 p2 p3 p4 = some res) : Met l yX9_isAfter wsX9_isAfter rX9_isAfter (va_Pc [.ref h0, .int p1, .int p2, .int p3, .int p4] (pR G (wMod G h0 qDR qLA qLE qCE qFI qCO qCR qSI qSR qMO qBO qPX qPY qPZ qSX dr bo po sx sy sw tx ty tz DR LA LE CE FI CO CR SI SR MO BO PX PY PZ SX))) (vp_Si (fun r => r = res ∧ (r = 0 ∨ r = 1))) 0 0 (fun _ => False) := by
  refine Met.ofW (cc := cX9_isAfter) (maxL := 5) (ret := (some .boolean)) (by decide) rfl ?_
  intro p e s m args below meth c s₁ B hml hv
  obtain ⟨rfl, hP, hK⟩ := hv
  have hx := B.exec
  have hb := B.bytes
  have hr := B.returns
  have hts := atoms_spec (ws := wsX9_isAfter) B.pre
  have hown : s.vm.findClass RX9 = some m.cls := findClass_of_methodNamed B.named
  have hlocks := B.notSynchronized
  have hin9 : ∀ w ∈ u_ws RX9 TX9 24, w ∈ wsX9_isAfter := by decide +kernel
  have hfl44 := hts (.fieldLink RX9 44 "SwellBodiesModel" "px" "[I") (by decide +kernel)
  have hfl47 := hts (.fieldLink RX9 47 "SwellBodiesModel" "py" "[I") (by decide +kernel)
  have hfl50 := hts (.fieldLink RX9 50 "SwellBodiesModel" "pz" "[I") (by decide +kernel)
  have hl := lv_entry ([.ref h0, .int p1, .int p2, .int p3, .int p4]) (n := 5) (Nat.le_of_ble_eq_true rfl)
  rw [lg_entry_eq]
  generalize (lg_sl ([.ref h0, .int p1, .int p2, .int p3, .int p4]) ++ List.replicate (5 - (lg_sl ([.ref h0, .int p1, .int p2, .int p3, .int p4])).length) Slot.unset).toArray = ls at hl ⊢
  have hl : lv_has ls 5 [(0, .ref h0), (1, .int p1), (2, .int p2), (3, .int p3), (4, .int p4)] := hl
  unfold fX9_isAfter at hF
  refine lv_aload_n hx hb dX9_isAfter_0 rfl (lv_at hl 0 rfl) ?_
  refine va_get (ci := 9) (v := .ref qPX) (C := RX9) (T := TX9) (N := 24) hx hb hts hin9 hown hK hP 0 rfl rfl 14 (by decide) hfl44 (fun _ h9 => h9) rfl dX9_isAfter_1 ?_
  refine lv_iload_n hx hb dX9_isAfter_4 rfl (lv_at hl 1 rfl) ?_
  obtain ⟨hi_1, hF⟩ := gd_in_s hF
  refine va_iald hx hb hK hP 12 0 rfl rfl hi_1 dX9_isAfter_5 ?_
  refine lv_iload_n hx hb dX9_isAfter_6 rfl (lv_at hl 2 rfl) ?_
  refine lv_icmp_eq (tgt := 28) hx hb dX9_isAfter_7 (by decide) (fun c_2 => ?_) (fun c_2 => ?_)
  · replace hF := it_p c_2 hF
    refine lv_aload_n hx hb dX9_isAfter_28 rfl (lv_at hl 0 rfl) ?_
    refine va_get (ci := 9) (v := .ref qPY) (C := RX9) (T := TX9) (N := 24) hx hb hts hin9 hown hK hP 0 rfl rfl 15 (by decide) hfl47 (fun _ h9 => h9) rfl dX9_isAfter_29 ?_
    refine lv_iload_n hx hb dX9_isAfter_32 rfl (lv_at hl 1 rfl) ?_
    refine va_iald hx hb hK hP 13 0 rfl rfl hi_1 dX9_isAfter_33 ?_
    refine lv_iload_n hx hb dX9_isAfter_34 rfl (lv_at hl 3 rfl) ?_
    refine lv_icmp_eq (tgt := 56) hx hb dX9_isAfter_35 (by decide) (fun c_3 => ?_) (fun c_3 => ?_)
    · replace hF := it_p c_3 hF
      refine lv_aload_n hx hb dX9_isAfter_56 rfl (lv_at hl 0 rfl) ?_
      refine va_get (ci := 9) (v := .ref qPZ) (C := RX9) (T := TX9) (N := 24) hx hb hts hin9 hown hK hP 0 rfl rfl 16 (by decide) hfl50 (fun _ h9 => h9) rfl dX9_isAfter_57 ?_
      refine lv_iload_n hx hb dX9_isAfter_60 rfl (lv_at hl 1 rfl) ?_
      refine va_iald hx hb hK hP 14 0 rfl rfl hi_1 dX9_isAfter_61 ?_
      refine lv_iload hx hb dX9_isAfter_62 (lv_at hl 4 rfl) ?_
      refine lv_icmp_le (tgt := 71) hx hb dX9_isAfter_64 (by decide) (fun c_4 => ?_) (fun c_4 => ?_)
      · replace hF := it_p c_4 hF
        refine lv_iconst (v := 0) hx hb dX9_isAfter_71 (by decide) ?_
        exact W.zret (v := 0) hx hb hr (by first | rfl | (rcases hF with h | h <;> rw [h] <;> rfl)) (fun t ht hW => ⟨0, rfl, ⟨so_e hF, (by first | exact Or.inl rfl | exact Or.inr rfl | assumption)⟩, ht⟩) (fun q h => absurd h List.not_mem_nil) dX9_isAfter_72
      · replace hF := it_n c_4 hF
        refine lv_iconst (v := 1) hx hb dX9_isAfter_67 (by decide) ?_
        refine lv_goto (tgt := 72) hx hb dX9_isAfter_68 (by decide) ?_
        exact W.zret (v := 1) hx hb hr (by first | rfl | (rcases hF with h | h <;> rw [h] <;> rfl)) (fun t ht hW => ⟨1, rfl, ⟨so_e hF, (by first | exact Or.inl rfl | exact Or.inr rfl | assumption)⟩, ht⟩) (fun q h => absurd h List.not_mem_nil) dX9_isAfter_72
    · replace hF := it_n c_3 hF
      refine lv_aload_n hx hb dX9_isAfter_38 rfl (lv_at hl 0 rfl) ?_
      refine va_get (ci := 9) (v := .ref qPY) (C := RX9) (T := TX9) (N := 24) hx hb hts hin9 hown hK hP 0 rfl rfl 15 (by decide) hfl47 (fun _ h9 => h9) rfl dX9_isAfter_39 ?_
      refine lv_iload_n hx hb dX9_isAfter_42 rfl (lv_at hl 1 rfl) ?_
      refine va_iald hx hb hK hP 13 0 rfl rfl hi_1 dX9_isAfter_43 ?_
      refine lv_iload_n hx hb dX9_isAfter_44 rfl (lv_at hl 3 rfl) ?_
      refine lv_icmp_le (tgt := 52) hx hb dX9_isAfter_45 (by decide) (fun c_5 => ?_) (fun c_5 => ?_)
      · replace hF := it_p c_5 hF
        refine lv_iconst (v := 0) hx hb dX9_isAfter_52 (by decide) ?_
        refine lv_goto (tgt := 72) hx hb dX9_isAfter_53 (by decide) ?_
        exact W.zret (v := 0) hx hb hr (by first | rfl | (rcases hF with h | h <;> rw [h] <;> rfl)) (fun t ht hW => ⟨0, rfl, ⟨so_e hF, (by first | exact Or.inl rfl | exact Or.inr rfl | assumption)⟩, ht⟩) (fun q h => absurd h List.not_mem_nil) dX9_isAfter_72
      · replace hF := it_n c_5 hF
        refine lv_iconst (v := 1) hx hb dX9_isAfter_48 (by decide) ?_
        refine lv_goto (tgt := 72) hx hb dX9_isAfter_49 (by decide) ?_
        exact W.zret (v := 1) hx hb hr (by first | rfl | (rcases hF with h | h <;> rw [h] <;> rfl)) (fun t ht hW => ⟨1, rfl, ⟨so_e hF, (by first | exact Or.inl rfl | exact Or.inr rfl | assumption)⟩, ht⟩) (fun q h => absurd h List.not_mem_nil) dX9_isAfter_72
  · replace hF := it_n c_2 hF
    refine lv_aload_n hx hb dX9_isAfter_10 rfl (lv_at hl 0 rfl) ?_
    refine va_get (ci := 9) (v := .ref qPX) (C := RX9) (T := TX9) (N := 24) hx hb hts hin9 hown hK hP 0 rfl rfl 14 (by decide) hfl44 (fun _ h9 => h9) rfl dX9_isAfter_11 ?_
    refine lv_iload_n hx hb dX9_isAfter_14 rfl (lv_at hl 1 rfl) ?_
    refine va_iald hx hb hK hP 12 0 rfl rfl hi_1 dX9_isAfter_15 ?_
    refine lv_iload_n hx hb dX9_isAfter_16 rfl (lv_at hl 2 rfl) ?_
    refine lv_icmp_le (tgt := 24) hx hb dX9_isAfter_17 (by decide) (fun c_6 => ?_) (fun c_6 => ?_)
    · replace hF := it_p c_6 hF
      refine lv_iconst (v := 0) hx hb dX9_isAfter_24 (by decide) ?_
      refine lv_goto (tgt := 72) hx hb dX9_isAfter_25 (by decide) ?_
      exact W.zret (v := 0) hx hb hr (by first | rfl | (rcases hF with h | h <;> rw [h] <;> rfl)) (fun t ht hW => ⟨0, rfl, ⟨so_e hF, (by first | exact Or.inl rfl | exact Or.inr rfl | assumption)⟩, ht⟩) (fun q h => absurd h List.not_mem_nil) dX9_isAfter_72
    · replace hF := it_n c_6 hF
      refine lv_iconst (v := 1) hx hb dX9_isAfter_20 (by decide) ?_
      refine lv_goto (tgt := 72) hx hb dX9_isAfter_21 (by decide) ?_
      exact W.zret (v := 1) hx hb hr (by first | rfl | (rcases hF with h | h <;> rw [h] <;> rfl)) (fun t ht hW => ⟨1, rfl, ⟨so_e hF, (by first | exact Or.inl rfl | exact Or.inr rfl | assumption)⟩, ht⟩) (fun q h => absurd h List.not_mem_nil) dX9_isAfter_72
def LX9_point_82   : Nat → Int32 → Int32 → Int32 → Int32 → Int32 → Int32 → (Nat → Int32) → (Nat → Int32) → (Nat → Int32) → Option (Int32 × (Nat → Int32) × (Nat → Int32) × (Nat → Int32))
  | 0, _, _, _, _, _, _, _, _, _ => none
  | k + 1, a1, a2, a3, a4, a5, mpo, mPX, mPY, mPZ =>
  (if a5 ≤ a4 then (gd_in a4 140 (some (mpo + 1, upd mPX a4.toNatClampNeg a1, upd mPY a4.toNatClampNeg a2, upd mPZ a4.toNatClampNeg a3))) else (gd_in (a5 - 1) 140 (gd_in a5 140 (LX9_point_82 k a1 a2 a3 a4 (a5 + (-1)) mpo (upd mPX a5.toNatClampNeg (mPX (a5 - 1).toNatClampNeg)) (upd mPY a5.toNatClampNeg (mPY (a5 - 1).toNatClampNeg)) (upd mPZ a5.toNatClampNeg (mPZ (a5 - 1).toNatClampNeg))))))
def JX9_point_76   (a1 : Int32) (a2 : Int32) (a3 : Int32) (a4 : Int32) (mpo : Int32) (mPX : Nat → Int32) (mPY : Nat → Int32) (mPZ : Nat → Int32) : Option (Int32 × (Nat → Int32) × (Nat → Int32) × (Nat → Int32)) :=
  (LX9_point_82 FU a1 a2 a3 a4 mpo mpo mPX mPY mPZ)
def JX9_point_31   (a1 : Int32) (a2 : Int32) (a3 : Int32) (a4 : Int32) (mpo : Int32) (mPX : Nat → Int32) (mPY : Nat → Int32) (mPZ : Nat → Int32) : Option (Int32 × (Nat → Int32) × (Nat → Int32) × (Nat → Int32)) :=
  (if a4 ≤ 0 then (JX9_point_76 a1 a2 a3 a4 mpo mPX mPY mPZ) else (gd_in (a4 - 1) 140 (if mPX (a4 - 1).toNatClampNeg = a1 then (if mPY (a4 - 1).toNatClampNeg = a2 then (if mPZ (a4 - 1).toNatClampNeg = a3 then (some (mpo, mPX, mPY, mPZ)) else (JX9_point_76 a1 a2 a3 a4 mpo mPX mPY mPZ)) else (JX9_point_76 a1 a2 a3 a4 mpo mPX mPY mPZ)) else (JX9_point_76 a1 a2 a3 a4 mpo mPX mPY mPZ))))
def LX9_point_6   : Nat → Int32 → Int32 → Int32 → Int32 → Int32 → (Nat → Int32) → (Nat → Int32) → (Nat → Int32) → Option (Int32 × (Nat → Int32) × (Nat → Int32) × (Nat → Int32))
  | 0, _, _, _, _, _, _, _, _ => none
  | k + 1, a1, a2, a3, a4, mpo, mPX, mPY, mPZ =>
  (if a4 ≤ 0 then (JX9_point_31 a1 a2 a3 a4 mpo mPX mPY mPZ) else (bd (fX9_isAfter mPX mPY mPZ (a4 - 1) a1 a2 a3) (fun v_11 => (if v_11 = 0 then (JX9_point_31 a1 a2 a3 a4 mpo mPX mPY mPZ) else (LX9_point_6 k a1 a2 a3 (a4 + (-1)) mpo mPX mPY mPZ)))))
def fX9_point (po : Int32) (PX : Nat → Int32) (PY : Nat → Int32) (PZ : Nat → Int32) (p1 : Int32) (p2 : Int32) (p3 : Int32) : Option (Int32 × (Nat → Int32) × (Nat → Int32) × (Nat → Int32)) :=
  (LX9_point_6 FU p1 p2 p3 po po PX PY PZ)
abbrev rX9_point : Room := { frames := 1, cells := 0, slots := 0, locals := 24 }
set_option maxHeartbeats 40000000 in
set_option maxRecDepth 100000 in
theorem kX9_point (l : Launch) (G : GT) (h0 qDR qLA qLE qCE qFI qCO qCR qSI qSR qMO qBO qPX qPY qPZ qSX : Nat) (sz : Nat) (dr : Int32) (bo : Int32) (po : Int32) (sx : Int32) (sy : Int32) (sw : Int32) (tx : Int32) (ty : Int32) (tz : Int32) (DR : Nat → Int32) (LA : Nat → Int32) (LE : Nat → Int32) (CE : Nat → Int64) (FI : Nat → Int32) (CO : Nat → Int32) (CR : Nat → Int32) (SI : Nat → Int32) (SR : Nat → Int32) (MO : Nat → Int32) (BO : Nat → Int32) (PX : Nat → Int32) (PY : Nat → Int32) (PZ : Nat → Int32) (SX : Nat → Int32) (p1 : Int32) (p2 : Int32) (p3 : Int32) (res : Int32 × (Nat → Int32) × (Nat → Int32) × (Nat → Int32)) (hF : fX9_point po PX PY PZ p1 p2 p3 = some res) : Met l yX9_point wsX9_point rX9_point (va_Pc [.ref h0, .int p1, .int p2, .int p3] (pW G sz (wMod G h0 qDR qLA qLE qCE qFI qCO qCR qSI qSR qMO qBO qPX qPY qPZ qSX dr bo po sx sy sw tx ty tz DR LA LE CE FI CO CR SI SR MO BO PX PY PZ SX))) (va_Qv (fun (u : Int32 × (Nat → Int32) × (Nat → Int32) × (Nat → Int32)) => u = res) (fun u t => qW G (va_A (wMod G h0 qDR qLA qLE qCE qFI qCO qCR qSI qSR qMO qBO qPX qPY qPZ qSX dr bo po sx sy sw tx ty tz DR LA LE CE FI CO CR SI SR MO BO PX PY PZ SX) sz) (wMod G h0 qDR qLA qLE qCE qFI qCO qCR qSI qSR qMO qBO qPX qPY qPZ qSX dr bo u.1 sx sy sw tx ty tz DR LA LE CE FI CO CR SI SR MO BO u.2.1 u.2.2.1 u.2.2.2 SX) t) (va_A (wMod G h0 qDR qLA qLE qCE qFI qCO qCR qSI qSR qMO qBO qPX qPY qPZ qSX dr bo po sx sy sw tx ty tz DR LA LE CE FI CO CR SI SR MO BO PX PY PZ SX) sz)) 0 0 (va_A (wMod G h0 qDR qLA qLE qCE qFI qCO qCR qSI qSR qMO qBO qPX qPY qPZ qSX dr bo po sx sy sw tx ty tz DR LA LE CE FI CO CR SI SR MO BO PX PY PZ SX) sz) := by
  refine Met.ofW (cc := cX9_point) (maxL := 6) (ret := none) (by decide) rfl ?_
  intro p e s m args below meth c s₁ B hml hv
  obtain ⟨rfl, hsz, hP, hK, hD0⟩ := hv
  have hx := B.exec
  have hb := B.bytes
  have hr := B.returns
  have hts := atoms_spec (ws := wsX9_point) B.pre
  have hown : s.vm.findClass RX9 = some m.cls := findClass_of_methodNamed B.named
  have hlocks := B.notSynchronized
  subst hsz
  have hD := hD0.self (sz := s.heap.size)
  generalize hAe : va_A (wMod G h0 qDR qLA qLE qCE qFI qCO qCR qSI qSR qMO qBO qPX qPY qPZ qSX dr bo po sx sy sw tx ty tz DR LA LE CE FI CO CR SI SR MO BO PX PY PZ SX) s.heap.size = A at hD ⊢
  have hA : ∀ q : Nat, s.heap.size ≤ q → A q := fun q h => by rw [← hAe]; exact Or.inr h
  have hS : va_S A s.heap s.heap [] := va_S.rf
  have hin9 : ∀ w ∈ u_ws RX9 TX9 24, w ∈ wsX9_point := by decide +kernel
  have hfl74 := hts (.fieldLink RX9 74 "SwellBodiesModel" "points" "I") (by decide +kernel)
  have hfl44 := hts (.fieldLink RX9 44 "SwellBodiesModel" "px" "[I") (by decide +kernel)
  have hfl47 := hts (.fieldLink RX9 47 "SwellBodiesModel" "py" "[I") (by decide +kernel)
  have hfl50 := hts (.fieldLink RX9 50 "SwellBodiesModel" "pz" "[I") (by decide +kernel)
  have hl := lv_entry ([.ref h0, .int p1, .int p2, .int p3]) (n := 6) (Nat.le_of_ble_eq_true rfl)
  rw [lg_entry_eq]
  generalize (lg_sl ([.ref h0, .int p1, .int p2, .int p3]) ++ List.replicate (6 - (lg_sl ([.ref h0, .int p1, .int p2, .int p3])).length) Slot.unset).toArray = ls at hl ⊢
  have hl : lv_has ls 6 [(0, .ref h0), (1, .int p1), (2, .int p2), (3, .int p3)] := hl
  have hL82 : ∀ (k : Nat), ∀ (a1 : Int32) (a2 : Int32) (a3 : Int32) (a4 : Int32) (a5 : Int32) (mpo : Int32) (mPX : Nat → Int32) (mPY : Nat → Int32) (mPZ : Nat → Int32) (H : Heap) (locs : List Loc) (ls : Array Slot), LX9_point_82 k a1 a2 a3 a4 a5 mpo mPX mPY mPZ = some res → va_P (gD G) vwCl (wMod G h0 qDR qLA qLE qCE qFI qCO qCR qSI qSR qMO qBO qPX qPY qPZ qSX dr bo mpo sx sy sw tx ty tz DR LA LE CE FI CO CR SI SR MO BO mPX mPY mPZ SX) H → va_D A (wMod G h0 qDR qLA qLE qCE qFI qCO qCR qSI qSR qMO qBO qPX qPY qPZ qSX dr bo mpo sx sy sw tx ty tz DR LA LE CE FI CO CR SI SR MO BO mPX mPY mPZ SX) → va_S A s.heap H locs → lv_has ls 6 [(0, .ref h0), (1, .int a1), (2, .int a2), (3, .int a3), (4, .int a4), (5, .int a5)] → W p l e (headSpec wsX9_point rX9_point).room s m ([.ref h0, .int p1, .int p2, .int p3] : List Value).toArray below meth c H locs 0 0 (MQ below (va_Qv (fun (u : Int32 × (Nat → Int32) × (Nat → Int32) × (Nat → Int32)) => u = res) (fun u t => qW G A (wMod G h0 qDR qLA qLE qCE qFI qCO qCR qSI qSR qMO qBO qPX qPY qPZ qSX dr bo u.1 sx sy sw tx ty tz DR LA LE CE FI CO CR SI SR MO BO u.2.1 u.2.2.1 u.2.2.2 SX) t) A) ([.ref h0, .int p1, .int p2, .int p3] : List Value).toArray s 0 0 A) (F0 m 82 ls []) := by
    intro k
    induction k with
    | zero =>
      intro a1 a2 a3 a4 a5 mpo mPX mPY mPZ H locs ls hF hP hD hS hl
      rw [LX9_point_82] at hF
      cases hF
    | succ k ih =>
      intro a1 a2 a3 a4 a5 mpo mPX mPY mPZ H locs ls hF hP hD hS hl
      rw [LX9_point_82] at hF
      refine lv_iload hx hb dX9_point_82 (lv_at hl 5 rfl) ?_
      refine lv_iload hx hb dX9_point_84 (lv_at hl 4 rfl) ?_
      refine lv_icmp_le (tgt := 143) hx hb dX9_point_86 (by decide) (fun c_3 => ?_) (fun c_3 => ?_)
      · replace hF := it_p c_3 hF
        refine lv_aload_n hx hb dX9_point_143 rfl (lv_at hl 0 rfl) ?_
        refine va_get (ci := 9) (v := .ref qPX) (C := RX9) (T := TX9) (N := 24) hx hb hts hin9 hown hK hP 0 rfl rfl 14 (by decide) hfl44 (fun _ h9 => h9) rfl dX9_point_144 ?_
        refine lv_iload hx hb dX9_point_147 (lv_at hl 4 rfl) ?_
        refine lv_iload_n hx hb dX9_point_149 rfl (lv_at hl 1 rfl) ?_
        obtain ⟨hi_4, hF⟩ := gd_in_s hF
        refine va_iast hx hb hK hP hD hS 12 0 rfl rfl hi_4 dX9_point_150 (fun H locs hP hD hS => ?_)
        have hP : va_P (gD G) vwCl (wMod G h0 qDR qLA qLE qCE qFI qCO qCR qSI qSR qMO qBO qPX qPY qPZ qSX dr bo mpo sx sy sw tx ty tz DR LA LE CE FI CO CR SI SR MO BO (upd mPX a4.toNatClampNeg a1) mPY mPZ SX) H := hP
        have hD : va_D A (wMod G h0 qDR qLA qLE qCE qFI qCO qCR qSI qSR qMO qBO qPX qPY qPZ qSX dr bo mpo sx sy sw tx ty tz DR LA LE CE FI CO CR SI SR MO BO (upd mPX a4.toNatClampNeg a1) mPY mPZ SX) := hD
        refine lv_aload_n hx hb dX9_point_151 rfl (lv_at hl 0 rfl) ?_
        refine va_get (ci := 9) (v := .ref qPY) (C := RX9) (T := TX9) (N := 24) hx hb hts hin9 hown hK hP 0 rfl rfl 15 (by decide) hfl47 (fun _ h9 => h9) rfl dX9_point_152 ?_
        refine lv_iload hx hb dX9_point_155 (lv_at hl 4 rfl) ?_
        refine lv_iload_n hx hb dX9_point_157 rfl (lv_at hl 2 rfl) ?_
        refine va_iast hx hb hK hP hD hS 13 0 rfl rfl hi_4 dX9_point_158 (fun H locs hP hD hS => ?_)
        have hP : va_P (gD G) vwCl (wMod G h0 qDR qLA qLE qCE qFI qCO qCR qSI qSR qMO qBO qPX qPY qPZ qSX dr bo mpo sx sy sw tx ty tz DR LA LE CE FI CO CR SI SR MO BO (upd mPX a4.toNatClampNeg a1) (upd mPY a4.toNatClampNeg a2) mPZ SX) H := hP
        have hD : va_D A (wMod G h0 qDR qLA qLE qCE qFI qCO qCR qSI qSR qMO qBO qPX qPY qPZ qSX dr bo mpo sx sy sw tx ty tz DR LA LE CE FI CO CR SI SR MO BO (upd mPX a4.toNatClampNeg a1) (upd mPY a4.toNatClampNeg a2) mPZ SX) := hD
        refine lv_aload_n hx hb dX9_point_159 rfl (lv_at hl 0 rfl) ?_
        refine va_get (ci := 9) (v := .ref qPZ) (C := RX9) (T := TX9) (N := 24) hx hb hts hin9 hown hK hP 0 rfl rfl 16 (by decide) hfl50 (fun _ h9 => h9) rfl dX9_point_160 ?_
        refine lv_iload hx hb dX9_point_163 (lv_at hl 4 rfl) ?_
        refine lv_iload_n hx hb dX9_point_165 rfl (lv_at hl 3 rfl) ?_
        refine va_iast hx hb hK hP hD hS 14 0 rfl rfl hi_4 dX9_point_166 (fun H locs hP hD hS => ?_)
        have hP : va_P (gD G) vwCl (wMod G h0 qDR qLA qLE qCE qFI qCO qCR qSI qSR qMO qBO qPX qPY qPZ qSX dr bo mpo sx sy sw tx ty tz DR LA LE CE FI CO CR SI SR MO BO (upd mPX a4.toNatClampNeg a1) (upd mPY a4.toNatClampNeg a2) (upd mPZ a4.toNatClampNeg a3) SX) H := hP
        have hD : va_D A (wMod G h0 qDR qLA qLE qCE qFI qCO qCR qSI qSR qMO qBO qPX qPY qPZ qSX dr bo mpo sx sy sw tx ty tz DR LA LE CE FI CO CR SI SR MO BO (upd mPX a4.toNatClampNeg a1) (upd mPY a4.toNatClampNeg a2) (upd mPZ a4.toNatClampNeg a3) SX) := hD
        refine lv_aload_n hx hb dX9_point_167 rfl (lv_at hl 0 rfl) ?_
        refine lv_dup hx hb dX9_point_168 rfl ?_
        refine va_get (ci := 9) (v := .int mpo) (C := RX9) (T := TX9) (N := 24) hx hb hts hin9 hown hK hP 0 rfl rfl 13 (by decide) hfl74 (fun _ h9 => h9) rfl dX9_point_169 ?_
        refine lv_iconst (v := 1) hx hb dX9_point_172 (by decide) ?_
        refine lv_iadd hx hb dX9_point_173 ?_
        refine va_put (ci := 9) (v := .int (mpo + 1)) (ty := .int) (C := RX9) (T := TX9) (N := 24) hx hb hts hin9 tyX9 tyX9_ok nmX9 hown hK hP hD hS 0 rfl rfl 13 (by decide) hfl74 (fun _ h9 => h9) rfl (by decide +kernel) rfl rfl (Nat.le_of_ble_eq_true rfl) dX9_point_174 (fun H locs hP hD hS => ?_)
        have hP : va_P (gD G) vwCl (wMod G h0 qDR qLA qLE qCE qFI qCO qCR qSI qSR qMO qBO qPX qPY qPZ qSX dr bo (mpo + 1) sx sy sw tx ty tz DR LA LE CE FI CO CR SI SR MO BO (upd mPX a4.toNatClampNeg a1) (upd mPY a4.toNatClampNeg a2) (upd mPZ a4.toNatClampNeg a3) SX) H := hP
        have hD : va_D A (wMod G h0 qDR qLA qLE qCE qFI qCO qCR qSI qSR qMO qBO qPX qPY qPZ qSX dr bo (mpo + 1) sx sy sw tx ty tz DR LA LE CE FI CO CR SI SR MO BO (upd mPX a4.toNatClampNeg a1) (upd mPY a4.toNatClampNeg a2) (upd mPZ a4.toNatClampNeg a3) SX) := hD
        exact W.vret hx hb hr (fun t ht hW => ⟨⟨(mpo + 1, upd mPX a4.toNatClampNeg a1, upd mPY a4.toNatClampNeg a2, upd mPZ a4.toNatClampNeg a3), rfl, so_e hF, qW_mk ht hP hK hW hD⟩, hS.F ht⟩) hS.2.2 dX9_point_177
      · replace hF := it_n c_3 hF
        refine lv_aload_n hx hb dX9_point_89 rfl (lv_at hl 0 rfl) ?_
        refine va_get (ci := 9) (v := .ref qPX) (C := RX9) (T := TX9) (N := 24) hx hb hts hin9 hown hK hP 0 rfl rfl 14 (by decide) hfl44 (fun _ h9 => h9) rfl dX9_point_90 ?_
        refine lv_iload hx hb dX9_point_93 (lv_at hl 5 rfl) ?_
        refine lv_aload_n hx hb dX9_point_95 rfl (lv_at hl 0 rfl) ?_
        refine va_get (ci := 9) (v := .ref qPX) (C := RX9) (T := TX9) (N := 24) hx hb hts hin9 hown hK hP 0 rfl rfl 14 (by decide) hfl44 (fun _ h9 => h9) rfl dX9_point_96 ?_
        refine lv_iload hx hb dX9_point_99 (lv_at hl 5 rfl) ?_
        refine lv_iconst (v := 1) hx hb dX9_point_101 (by decide) ?_
        refine lv_isub hx hb dX9_point_102 ?_
        obtain ⟨hi_5, hF⟩ := gd_in_s hF
        refine va_iald hx hb hK hP 12 0 rfl rfl hi_5 dX9_point_103 ?_
        obtain ⟨hi_6, hF⟩ := gd_in_s hF
        refine va_iast hx hb hK hP hD hS 12 0 rfl rfl hi_6 dX9_point_104 (fun H locs hP hD hS => ?_)
        have hP : va_P (gD G) vwCl (wMod G h0 qDR qLA qLE qCE qFI qCO qCR qSI qSR qMO qBO qPX qPY qPZ qSX dr bo mpo sx sy sw tx ty tz DR LA LE CE FI CO CR SI SR MO BO (upd mPX a5.toNatClampNeg (mPX (a5 - 1).toNatClampNeg)) mPY mPZ SX) H := hP
        have hD : va_D A (wMod G h0 qDR qLA qLE qCE qFI qCO qCR qSI qSR qMO qBO qPX qPY qPZ qSX dr bo mpo sx sy sw tx ty tz DR LA LE CE FI CO CR SI SR MO BO (upd mPX a5.toNatClampNeg (mPX (a5 - 1).toNatClampNeg)) mPY mPZ SX) := hD
        refine lv_aload_n hx hb dX9_point_105 rfl (lv_at hl 0 rfl) ?_
        refine va_get (ci := 9) (v := .ref qPY) (C := RX9) (T := TX9) (N := 24) hx hb hts hin9 hown hK hP 0 rfl rfl 15 (by decide) hfl47 (fun _ h9 => h9) rfl dX9_point_106 ?_
        refine lv_iload hx hb dX9_point_109 (lv_at hl 5 rfl) ?_
        refine lv_aload_n hx hb dX9_point_111 rfl (lv_at hl 0 rfl) ?_
        refine va_get (ci := 9) (v := .ref qPY) (C := RX9) (T := TX9) (N := 24) hx hb hts hin9 hown hK hP 0 rfl rfl 15 (by decide) hfl47 (fun _ h9 => h9) rfl dX9_point_112 ?_
        refine lv_iload hx hb dX9_point_115 (lv_at hl 5 rfl) ?_
        refine lv_iconst (v := 1) hx hb dX9_point_117 (by decide) ?_
        refine lv_isub hx hb dX9_point_118 ?_
        refine va_iald hx hb hK hP 13 0 rfl rfl hi_5 dX9_point_119 ?_
        refine va_iast hx hb hK hP hD hS 13 0 rfl rfl hi_6 dX9_point_120 (fun H locs hP hD hS => ?_)
        have hP : va_P (gD G) vwCl (wMod G h0 qDR qLA qLE qCE qFI qCO qCR qSI qSR qMO qBO qPX qPY qPZ qSX dr bo mpo sx sy sw tx ty tz DR LA LE CE FI CO CR SI SR MO BO (upd mPX a5.toNatClampNeg (mPX (a5 - 1).toNatClampNeg)) (upd mPY a5.toNatClampNeg (mPY (a5 - 1).toNatClampNeg)) mPZ SX) H := hP
        have hD : va_D A (wMod G h0 qDR qLA qLE qCE qFI qCO qCR qSI qSR qMO qBO qPX qPY qPZ qSX dr bo mpo sx sy sw tx ty tz DR LA LE CE FI CO CR SI SR MO BO (upd mPX a5.toNatClampNeg (mPX (a5 - 1).toNatClampNeg)) (upd mPY a5.toNatClampNeg (mPY (a5 - 1).toNatClampNeg)) mPZ SX) := hD
        refine lv_aload_n hx hb dX9_point_121 rfl (lv_at hl 0 rfl) ?_
        refine va_get (ci := 9) (v := .ref qPZ) (C := RX9) (T := TX9) (N := 24) hx hb hts hin9 hown hK hP 0 rfl rfl 16 (by decide) hfl50 (fun _ h9 => h9) rfl dX9_point_122 ?_
        refine lv_iload hx hb dX9_point_125 (lv_at hl 5 rfl) ?_
        refine lv_aload_n hx hb dX9_point_127 rfl (lv_at hl 0 rfl) ?_
        refine va_get (ci := 9) (v := .ref qPZ) (C := RX9) (T := TX9) (N := 24) hx hb hts hin9 hown hK hP 0 rfl rfl 16 (by decide) hfl50 (fun _ h9 => h9) rfl dX9_point_128 ?_
        refine lv_iload hx hb dX9_point_131 (lv_at hl 5 rfl) ?_
        refine lv_iconst (v := 1) hx hb dX9_point_133 (by decide) ?_
        refine lv_isub hx hb dX9_point_134 ?_
        refine va_iald hx hb hK hP 14 0 rfl rfl hi_5 dX9_point_135 ?_
        refine va_iast hx hb hK hP hD hS 14 0 rfl rfl hi_6 dX9_point_136 (fun H locs hP hD hS => ?_)
        have hP : va_P (gD G) vwCl (wMod G h0 qDR qLA qLE qCE qFI qCO qCR qSI qSR qMO qBO qPX qPY qPZ qSX dr bo mpo sx sy sw tx ty tz DR LA LE CE FI CO CR SI SR MO BO (upd mPX a5.toNatClampNeg (mPX (a5 - 1).toNatClampNeg)) (upd mPY a5.toNatClampNeg (mPY (a5 - 1).toNatClampNeg)) (upd mPZ a5.toNatClampNeg (mPZ (a5 - 1).toNatClampNeg)) SX) H := hP
        have hD : va_D A (wMod G h0 qDR qLA qLE qCE qFI qCO qCR qSI qSR qMO qBO qPX qPY qPZ qSX dr bo mpo sx sy sw tx ty tz DR LA LE CE FI CO CR SI SR MO BO (upd mPX a5.toNatClampNeg (mPX (a5 - 1).toNatClampNeg)) (upd mPY a5.toNatClampNeg (mPY (a5 - 1).toNatClampNeg)) (upd mPZ a5.toNatClampNeg (mPZ (a5 - 1).toNatClampNeg)) SX) := hD
        refine lv_iinc (v := a5 + (-1)) (lv' := [(5, .int (a5 + (-1))), (0, .ref h0), (1, .int a1), (2, .int a2), (3, .int a3), (4, .int a4)]) hx hb dX9_point_137 hl (k := 5) rfl rfl (by decide) rfl (fun ls hl => ?_)
        refine lv_goto (tgt := 82) hx hb dX9_point_140 (by decide) ?_
        exact ih a1 a2 a3 a4 (a5 + (-1)) mpo (upd mPX a5.toNatClampNeg (mPX (a5 - 1).toNatClampNeg)) (upd mPY a5.toNatClampNeg (mPY (a5 - 1).toNatClampNeg)) (upd mPZ a5.toNatClampNeg (mPZ (a5 - 1).toNatClampNeg)) _ _ _ hF hP hD hS (lv_sub hl [1, 2, 3, 4, 5, 0] rfl)
  have hJ76 : ∀ (a1 : Int32) (a2 : Int32) (a3 : Int32) (a4 : Int32) (mpo : Int32) (mPX : Nat → Int32) (mPY : Nat → Int32) (mPZ : Nat → Int32) (H : Heap) (locs : List Loc) (ls : Array Slot), JX9_point_76 a1 a2 a3 a4 mpo mPX mPY mPZ = some res → va_P (gD G) vwCl (wMod G h0 qDR qLA qLE qCE qFI qCO qCR qSI qSR qMO qBO qPX qPY qPZ qSX dr bo mpo sx sy sw tx ty tz DR LA LE CE FI CO CR SI SR MO BO mPX mPY mPZ SX) H → va_D A (wMod G h0 qDR qLA qLE qCE qFI qCO qCR qSI qSR qMO qBO qPX qPY qPZ qSX dr bo mpo sx sy sw tx ty tz DR LA LE CE FI CO CR SI SR MO BO mPX mPY mPZ SX) → va_S A s.heap H locs → lv_has ls 6 [(0, .ref h0), (1, .int a1), (2, .int a2), (3, .int a3), (4, .int a4)] → W p l e (headSpec wsX9_point rX9_point).room s m ([.ref h0, .int p1, .int p2, .int p3] : List Value).toArray below meth c H locs 0 0 (MQ below (va_Qv (fun (u : Int32 × (Nat → Int32) × (Nat → Int32) × (Nat → Int32)) => u = res) (fun u t => qW G A (wMod G h0 qDR qLA qLE qCE qFI qCO qCR qSI qSR qMO qBO qPX qPY qPZ qSX dr bo u.1 sx sy sw tx ty tz DR LA LE CE FI CO CR SI SR MO BO u.2.1 u.2.2.1 u.2.2.2 SX) t) A) ([.ref h0, .int p1, .int p2, .int p3] : List Value).toArray s 0 0 A) (F0 m 76 ls []) := by
    intro a1 a2 a3 a4 mpo mPX mPY mPZ H locs ls hF hP hD hS hl
    unfold JX9_point_76 at hF
    refine lv_aload_n hx hb dX9_point_76 rfl (lv_at hl 0 rfl) ?_
    refine va_get (ci := 9) (v := .int mpo) (C := RX9) (T := TX9) (N := 24) hx hb hts hin9 hown hK hP 0 rfl rfl 13 (by decide) hfl74 (fun _ h9 => h9) rfl dX9_point_77 ?_
    refine lv_istore (lv' := [(5, .int mpo), (0, .ref h0), (1, .int a1), (2, .int a2), (3, .int a3), (4, .int a4)]) hx hb dX9_point_80 hl (by decide) rfl (fun ls hl => ?_)
    exact hL82 FU a1 a2 a3 a4 mpo mpo mPX mPY mPZ _ _ _ hF hP hD hS (lv_sub hl [1, 2, 3, 4, 5, 0] rfl)
  have hJ31 : ∀ (a1 : Int32) (a2 : Int32) (a3 : Int32) (a4 : Int32) (mpo : Int32) (mPX : Nat → Int32) (mPY : Nat → Int32) (mPZ : Nat → Int32) (H : Heap) (locs : List Loc) (ls : Array Slot), JX9_point_31 a1 a2 a3 a4 mpo mPX mPY mPZ = some res → va_P (gD G) vwCl (wMod G h0 qDR qLA qLE qCE qFI qCO qCR qSI qSR qMO qBO qPX qPY qPZ qSX dr bo mpo sx sy sw tx ty tz DR LA LE CE FI CO CR SI SR MO BO mPX mPY mPZ SX) H → va_D A (wMod G h0 qDR qLA qLE qCE qFI qCO qCR qSI qSR qMO qBO qPX qPY qPZ qSX dr bo mpo sx sy sw tx ty tz DR LA LE CE FI CO CR SI SR MO BO mPX mPY mPZ SX) → va_S A s.heap H locs → lv_has ls 6 [(0, .ref h0), (1, .int a1), (2, .int a2), (3, .int a3), (4, .int a4)] → W p l e (headSpec wsX9_point rX9_point).room s m ([.ref h0, .int p1, .int p2, .int p3] : List Value).toArray below meth c H locs 0 0 (MQ below (va_Qv (fun (u : Int32 × (Nat → Int32) × (Nat → Int32) × (Nat → Int32)) => u = res) (fun u t => qW G A (wMod G h0 qDR qLA qLE qCE qFI qCO qCR qSI qSR qMO qBO qPX qPY qPZ qSX dr bo u.1 sx sy sw tx ty tz DR LA LE CE FI CO CR SI SR MO BO u.2.1 u.2.2.1 u.2.2.2 SX) t) A) ([.ref h0, .int p1, .int p2, .int p3] : List Value).toArray s 0 0 A) (F0 m 31 ls []) := by
    intro a1 a2 a3 a4 mpo mPX mPY mPZ H locs ls hF hP hD hS hl
    unfold JX9_point_31 at hF
    refine lv_iload hx hb dX9_point_31 (lv_at hl 4 rfl) ?_
    refine lv_if_le (tgt := 76) hx hb dX9_point_33 (by decide) (fun c_2 => ?_) (fun c_2 => ?_)
    · replace hF := it_p c_2 hF
      exact hJ76 a1 a2 a3 a4 mpo mPX mPY mPZ _ _ _ hF hP hD hS (lv_sub hl [0, 1, 2, 3, 4] rfl)
    · replace hF := it_n c_2 hF
      refine lv_aload_n hx hb dX9_point_36 rfl (lv_at hl 0 rfl) ?_
      refine va_get (ci := 9) (v := .ref qPX) (C := RX9) (T := TX9) (N := 24) hx hb hts hin9 hown hK hP 0 rfl rfl 14 (by decide) hfl44 (fun _ h9 => h9) rfl dX9_point_37 ?_
      refine lv_iload hx hb dX9_point_40 (lv_at hl 4 rfl) ?_
      refine lv_iconst (v := 1) hx hb dX9_point_42 (by decide) ?_
      refine lv_isub hx hb dX9_point_43 ?_
      obtain ⟨hi_7, hF⟩ := gd_in_s hF
      refine va_iald hx hb hK hP 12 0 rfl rfl hi_7 dX9_point_44 ?_
      refine lv_iload_n hx hb dX9_point_45 rfl (lv_at hl 1 rfl) ?_
      refine lv_icmp_ne (tgt := 76) hx hb dX9_point_46 (by decide) (fun c_8 => ?_) (fun c_8 => ?_)
      · replace hF := it_n c_8 hF
        exact hJ76 a1 a2 a3 a4 mpo mPX mPY mPZ _ _ _ hF hP hD hS (lv_sub hl [0, 1, 2, 3, 4] rfl)
      · replace hF := it_p c_8 hF
        refine lv_aload_n hx hb dX9_point_49 rfl (lv_at hl 0 rfl) ?_
        refine va_get (ci := 9) (v := .ref qPY) (C := RX9) (T := TX9) (N := 24) hx hb hts hin9 hown hK hP 0 rfl rfl 15 (by decide) hfl47 (fun _ h9 => h9) rfl dX9_point_50 ?_
        refine lv_iload hx hb dX9_point_53 (lv_at hl 4 rfl) ?_
        refine lv_iconst (v := 1) hx hb dX9_point_55 (by decide) ?_
        refine lv_isub hx hb dX9_point_56 ?_
        refine va_iald hx hb hK hP 13 0 rfl rfl hi_7 dX9_point_57 ?_
        refine lv_iload_n hx hb dX9_point_58 rfl (lv_at hl 2 rfl) ?_
        refine lv_icmp_ne (tgt := 76) hx hb dX9_point_59 (by decide) (fun c_9 => ?_) (fun c_9 => ?_)
        · replace hF := it_n c_9 hF
          exact hJ76 a1 a2 a3 a4 mpo mPX mPY mPZ _ _ _ hF hP hD hS (lv_sub hl [0, 1, 2, 3, 4] rfl)
        · replace hF := it_p c_9 hF
          refine lv_aload_n hx hb dX9_point_62 rfl (lv_at hl 0 rfl) ?_
          refine va_get (ci := 9) (v := .ref qPZ) (C := RX9) (T := TX9) (N := 24) hx hb hts hin9 hown hK hP 0 rfl rfl 16 (by decide) hfl50 (fun _ h9 => h9) rfl dX9_point_63 ?_
          refine lv_iload hx hb dX9_point_66 (lv_at hl 4 rfl) ?_
          refine lv_iconst (v := 1) hx hb dX9_point_68 (by decide) ?_
          refine lv_isub hx hb dX9_point_69 ?_
          refine va_iald hx hb hK hP 14 0 rfl rfl hi_7 dX9_point_70 ?_
          refine lv_iload_n hx hb dX9_point_71 rfl (lv_at hl 3 rfl) ?_
          refine lv_icmp_ne (tgt := 76) hx hb dX9_point_72 (by decide) (fun c_10 => ?_) (fun c_10 => ?_)
          · replace hF := it_n c_10 hF
            exact hJ76 a1 a2 a3 a4 mpo mPX mPY mPZ _ _ _ hF hP hD hS (lv_sub hl [0, 1, 2, 3, 4] rfl)
          · replace hF := it_p c_10 hF
            exact W.vret hx hb hr (fun t ht hW => ⟨⟨(mpo, mPX, mPY, mPZ), rfl, so_e hF, qW_mk ht hP hK hW hD⟩, hS.F ht⟩) hS.2.2 dX9_point_75
  have hL6 : ∀ (k : Nat), ∀ (a1 : Int32) (a2 : Int32) (a3 : Int32) (a4 : Int32) (mpo : Int32) (mPX : Nat → Int32) (mPY : Nat → Int32) (mPZ : Nat → Int32) (H : Heap) (locs : List Loc) (ls : Array Slot), LX9_point_6 k a1 a2 a3 a4 mpo mPX mPY mPZ = some res → va_P (gD G) vwCl (wMod G h0 qDR qLA qLE qCE qFI qCO qCR qSI qSR qMO qBO qPX qPY qPZ qSX dr bo mpo sx sy sw tx ty tz DR LA LE CE FI CO CR SI SR MO BO mPX mPY mPZ SX) H → va_D A (wMod G h0 qDR qLA qLE qCE qFI qCO qCR qSI qSR qMO qBO qPX qPY qPZ qSX dr bo mpo sx sy sw tx ty tz DR LA LE CE FI CO CR SI SR MO BO mPX mPY mPZ SX) → va_S A s.heap H locs → lv_has ls 6 [(0, .ref h0), (1, .int a1), (2, .int a2), (3, .int a3), (4, .int a4)] → W p l e (headSpec wsX9_point rX9_point).room s m ([.ref h0, .int p1, .int p2, .int p3] : List Value).toArray below meth c H locs 0 0 (MQ below (va_Qv (fun (u : Int32 × (Nat → Int32) × (Nat → Int32) × (Nat → Int32)) => u = res) (fun u t => qW G A (wMod G h0 qDR qLA qLE qCE qFI qCO qCR qSI qSR qMO qBO qPX qPY qPZ qSX dr bo u.1 sx sy sw tx ty tz DR LA LE CE FI CO CR SI SR MO BO u.2.1 u.2.2.1 u.2.2.2 SX) t) A) ([.ref h0, .int p1, .int p2, .int p3] : List Value).toArray s 0 0 A) (F0 m 6 ls []) := by
    intro k
    induction k with
    | zero =>
      intro a1 a2 a3 a4 mpo mPX mPY mPZ H locs ls hF hP hD hS hl
      rw [LX9_point_6] at hF
      cases hF
    | succ k ih =>
      intro a1 a2 a3 a4 mpo mPX mPY mPZ H locs ls hF hP hD hS hl
      rw [LX9_point_6] at hF
      refine lv_iload hx hb dX9_point_6 (lv_at hl 4 rfl) ?_
      refine lv_if_le (tgt := 31) hx hb dX9_point_8 (by decide) (fun c_1 => ?_) (fun c_1 => ?_)
      · replace hF := it_p c_1 hF
        exact hJ31 a1 a2 a3 a4 mpo mPX mPY mPZ _ _ _ hF hP hD hS (lv_sub hl [0, 1, 2, 3, 4] rfl)
      · replace hF := it_n c_1 hF
        refine lv_aload_n hx hb dX9_point_11 rfl (lv_at hl 0 rfl) ?_
        refine lv_iload hx hb dX9_point_12 (lv_at hl 4 rfl) ?_
        refine lv_iconst (v := 1) hx hb dX9_point_14 (by decide) ?_
        refine lv_isub hx hb dX9_point_15 ?_
        refine lv_iload_n hx hb dX9_point_16 rfl (lv_at hl 1 rfl) ?_
        refine lv_iload_n hx hb dX9_point_17 rfl (lv_at hl 2 rfl) ?_
        refine lv_iload_n hx hb dX9_point_18 rfl (lv_at hl 3 rfl) ?_
        obtain ⟨v_11, hv_11, hF⟩ := bd_s hF
        refine ro_ze (va_runV (As := [.int (a4 - 1), .int a1, .int a2, .int a3]) (rest := []) ⟨hx, hb, hml, hown, hts⟩ (kX9_isAfter l G h0 qDR qLA qLE qCE qFI qCO qCR qSI qSR qMO qBO qPX qPY qPZ qSX dr bo mpo sx sy sw tx ty tz DR LA LE CE FI CO CR SI SR MO BO mPX mPY mPZ SX (a4 - 1) a1 a2 a3 v_11 hv_11) (cwV 4 hts gX9_point_X9_isAfter rfl rfl rfl (by decide +kernel) ⟨Nat.le_of_ble_eq_true rfl, Nat.le_of_ble_eq_true rfl⟩) (pvR (q0 := 0) 9 hK (hP.sub (ws' := (wMod G h0 qDR qLA qLE qCE qFI qCO qCR qSI qSR qMO qBO qPX qPY qPZ qSX dr bo mpo sx sy sw tx ty tz DR LA LE CE FI CO CR SI SR MO BO mPX mPY mPZ SX)) [0, 1, 2, 3, 4, 5, 6, 7, 8, 9, 10, 11, 12, 13, 14, 15] rfl) rfl rfl) rfl rfl hl.1 rfl (lv_room (Nat.le_of_ble_eq_true rfl)) dX9_point_19 ⟨Nat.le_of_ble_eq_true rfl, Nat.le_of_ble_eq_true rfl⟩) (fun hb_12 => ?_)
        refine lv_if_eq (tgt := 31) hx hb dX9_point_22 (by decide) (fun c_13 => ?_) (fun c_13 => ?_)
        · replace hF := it_p c_13 hF
          exact hJ31 a1 a2 a3 a4 mpo mPX mPY mPZ _ _ _ hF hP hD hS (lv_sub hl [0, 1, 2, 3, 4] rfl)
        · replace hF := it_n c_13 hF
          refine lv_iinc (v := a4 + (-1)) (lv' := [(4, .int (a4 + (-1))), (0, .ref h0), (1, .int a1), (2, .int a2), (3, .int a3)]) hx hb dX9_point_25 hl (k := 4) rfl rfl (by decide) rfl (fun ls hl => ?_)
          refine lv_goto (tgt := 6) hx hb dX9_point_28 (by decide) ?_
          exact ih a1 a2 a3 (a4 + (-1)) mpo mPX mPY mPZ _ _ _ hF hP hD hS (lv_sub hl [1, 2, 3, 4, 0] rfl)
  unfold fX9_point at hF
  refine lv_aload_n hx hb dX9_point_0 rfl (lv_at hl 0 rfl) ?_
  refine va_get (ci := 9) (v := .int po) (C := RX9) (T := TX9) (N := 24) hx hb hts hin9 hown hK hP 0 rfl rfl 13 (by decide) hfl74 (fun _ h9 => h9) rfl dX9_point_1 ?_
  refine lv_istore (lv' := [(4, .int po), (0, .ref h0), (1, .int p1), (2, .int p2), (3, .int p3)]) hx hb dX9_point_4 hl (by decide) rfl (fun ls hl => ?_)
  exact hL6 FU p1 p2 p3 po po PX PY PZ _ _ _ hF hP hD hS (lv_sub hl [1, 2, 3, 4, 0] rfl)
def LX9_divisor_22   : Nat → Int32 → Int32 → Option (Int32)
  | 0, _, _ => none
  | k + 1, a2, a3 =>
  (if a3 = 0 then (some a2) else (gd_nz a3 (LX9_divisor_22 k a3 (a2 - a2 / a3 * a3))))
def JX9_divisor_21   (a2 : Int32) (t0 : Int32) : Option (Int32) :=
  (LX9_divisor_22 FU a2 t0)
def JX9_divisor_10   (a1 : Int32) (t0 : Int32) : Option (Int32) :=
  (if 0 ≤ a1 then (JX9_divisor_21 t0 a1) else (JX9_divisor_21 t0 (-a1)))
def fX9_divisor (p1 : Int32) (p2 : Int32) : Option (Int32) :=
  (if 0 ≤ p1 then (JX9_divisor_10 p2 p1) else (JX9_divisor_10 p2 (-p1)))
abbrev rX9_divisor : Room := { frames := 0, cells := 0, slots := 0, locals := 0 }
set_option maxHeartbeats 40000000 in
set_option maxRecDepth 100000 in
theorem kX9_divisor (l : Launch) (G : GT) (p1 : Int32) (p2 : Int32) (res : Int32) (hF : fX9_divisor p1 p2 = some res) : Met l yX9_divisor wsX9_divisor rX9_divisor (va_Pc [.int p1, .int p2] (pR G ([] : va_W))) (vp_Si (fun r => r = res)) 0 0 (fun _ => False) := by
  refine Met.ofW (cc := cX9_divisor) (maxL := 5) (ret := (some .int)) (by decide) rfl ?_
  intro p e s m args below meth c s₁ B hml hv
  obtain ⟨rfl, hP, hK⟩ := hv
  have hx := B.exec
  have hb := B.bytes
  have hr := B.returns
  have hts := atoms_spec (ws := wsX9_divisor) B.pre
  have hown : s.vm.findClass RX9 = some m.cls := findClass_of_methodNamed B.named
  have hlocks := B.notSynchronized
  have hl := lv_entry ([.int p1, .int p2]) (n := 5) (Nat.le_of_ble_eq_true rfl)
  rw [lg_entry_eq]
  generalize (lg_sl ([.int p1, .int p2]) ++ List.replicate (5 - (lg_sl ([.int p1, .int p2])).length) Slot.unset).toArray = ls at hl ⊢
  have hl : lv_has ls 5 [(0, .int p1), (1, .int p2)] := hl
  have hL22 : ∀ (k : Nat), ∀ (a2 : Int32) (a3 : Int32) (ls : Array Slot), LX9_divisor_22 k a2 a3 = some res → lv_has ls 5 [(2, .int a2), (3, .int a3)] → W p l e (headSpec wsX9_divisor rX9_divisor).room s m ([.int p1, .int p2] : List Value).toArray below meth c s.heap [] 0 0 (MQ below (vp_Si (fun r => r = res)) ([.int p1, .int p2] : List Value).toArray s 0 0 (fun _ => False)) (F0 m 22 ls []) := by
    intro k
    induction k with
    | zero =>
      intro a2 a3 ls hF hl
      rw [LX9_divisor_22] at hF
      cases hF
    | succ k ih =>
      intro a2 a3 ls hF hl
      rw [LX9_divisor_22] at hF
      refine lv_iload_n hx hb dX9_divisor_22 rfl (lv_at hl 1 rfl) ?_
      refine lv_if_eq (tgt := 39) hx hb dX9_divisor_23 (by decide) (fun c_3 => ?_) (fun c_3 => ?_)
      · replace hF := it_p c_3 hF
        refine lv_iload_n hx hb dX9_divisor_39 rfl (lv_at hl 0 rfl) ?_
        exact W.iret (v := a2) hx hb hr  (fun t ht hW => ⟨a2, rfl, (so_e hF), ht⟩) (fun q h => absurd h List.not_mem_nil) dX9_divisor_40
      · replace hF := it_n c_3 hF
        refine lv_iload_n hx hb dX9_divisor_26 rfl (lv_at hl 0 rfl) ?_
        refine lv_iload_n hx hb dX9_divisor_27 rfl (lv_at hl 1 rfl) ?_
        obtain ⟨hz_4, hF⟩ := gd_nz_s hF
        refine lv_irem hx hb dX9_divisor_28 hz_4 ?_
        refine lv_istore (lv' := [(4, .int (a2 - a2 / a3 * a3)), (2, .int a2), (3, .int a3)]) hx hb dX9_divisor_29 hl (by decide) rfl (fun ls hl => ?_)
        refine lv_iload_n hx hb dX9_divisor_31 rfl (lv_at hl 2 rfl) ?_
        refine lv_istore_n (lv' := [(2, .int a3), (4, .int (a2 - a2 / a3 * a3)), (3, .int a3)]) hx hb dX9_divisor_32 rfl hl (by decide) rfl (fun ls hl => ?_)
        refine lv_iload hx hb dX9_divisor_33 (lv_at hl 1 rfl) ?_
        refine lv_istore_n (lv' := [(3, .int (a2 - a2 / a3 * a3)), (2, .int a3), (4, .int (a2 - a2 / a3 * a3))]) hx hb dX9_divisor_35 rfl hl (by decide) rfl (fun ls hl => ?_)
        refine lv_goto (tgt := 22) hx hb dX9_divisor_36 (by decide) ?_
        exact ih a3 (a2 - a2 / a3 * a3) _ hF (lv_sub hl [1, 0] rfl)
  have hJ21 : ∀ (a2 : Int32) (t0 : Int32) (ls : Array Slot), JX9_divisor_21 a2 t0 = some res → lv_has ls 5 [(2, .int a2)] → W p l e (headSpec wsX9_divisor rX9_divisor).room s m ([.int p1, .int p2] : List Value).toArray below meth c s.heap [] 0 0 (MQ below (vp_Si (fun r => r = res)) ([.int p1, .int p2] : List Value).toArray s 0 0 (fun _ => False)) (F0 m 21 ls [.int t0]) := by
    intro a2 t0 ls hF hl
    unfold JX9_divisor_21 at hF
    refine lv_istore_n (lv' := [(3, .int t0), (2, .int a2)]) hx hb dX9_divisor_21 rfl hl (by decide) rfl (fun ls hl => ?_)
    exact hL22 FU a2 t0 _ hF (lv_sub hl [1, 0] rfl)
  have hJ10 : ∀ (a1 : Int32) (t0 : Int32) (ls : Array Slot), JX9_divisor_10 a1 t0 = some res → lv_has ls 5 [(1, .int a1)] → W p l e (headSpec wsX9_divisor rX9_divisor).room s m ([.int p1, .int p2] : List Value).toArray below meth c s.heap [] 0 0 (MQ below (vp_Si (fun r => r = res)) ([.int p1, .int p2] : List Value).toArray s 0 0 (fun _ => False)) (F0 m 10 ls [.int t0]) := by
    intro a1 t0 ls hF hl
    unfold JX9_divisor_10 at hF
    refine lv_istore_n (lv' := [(2, .int t0), (1, .int a1)]) hx hb dX9_divisor_10 rfl hl (by decide) rfl (fun ls hl => ?_)
    refine lv_iload_n hx hb dX9_divisor_11 rfl (lv_at hl 1 rfl) ?_
    refine lv_if_ge (tgt := 20) hx hb dX9_divisor_12 (by decide) (fun c_2 => ?_) (fun c_2 => ?_)
    · replace hF := it_p c_2 hF
      refine lv_iload_n hx hb dX9_divisor_20 rfl (lv_at hl 1 rfl) ?_
      exact hJ21 t0 a1 _ hF (lv_sub hl [0] rfl)
    · replace hF := it_n c_2 hF
      refine lv_iload_n hx hb dX9_divisor_15 rfl (lv_at hl 1 rfl) ?_
      refine lv_ineg hx hb dX9_divisor_16 ?_
      refine lv_goto (tgt := 21) hx hb dX9_divisor_17 (by decide) ?_
      exact hJ21 t0 (-a1) _ hF (lv_sub hl [0] rfl)
  unfold fX9_divisor at hF
  refine lv_iload_n hx hb dX9_divisor_0 rfl (lv_at hl 0 rfl) ?_
  refine lv_if_ge (tgt := 9) hx hb dX9_divisor_1 (by decide) (fun c_1 => ?_) (fun c_1 => ?_)
  · replace hF := it_p c_1 hF
    refine lv_iload_n hx hb dX9_divisor_9 rfl (lv_at hl 0 rfl) ?_
    exact hJ10 p2 p1 _ hF (lv_sub hl [1] rfl)
  · replace hF := it_n c_1 hF
    refine lv_iload_n hx hb dX9_divisor_4 rfl (lv_at hl 0 rfl) ?_
    refine lv_ineg hx hb dX9_divisor_5 ?_
    refine lv_goto (tgt := 10) hx hb dX9_divisor_6 (by decide) ?_
    exact hJ10 p2 (-p1) _ hF (lv_sub hl [1] rfl)
def JX9_step_59   (t0 : Int32) (msx : Int32) (msy : Int32) (msw : Int32) : Option (Int32 × Int32 × Int32) :=
  (some (msx, msy, t0))
def JX9_step_42   (a3 : Int32) (a4 : Int32) (t0 : Int32) (msx : Int32) (msy : Int32) (msw : Int32) : Option (Int32 × Int32 × Int32) :=
  (if a4 = 0 then (JX9_step_59 0 msx t0 msw) else (gd_nz a4 (JX9_step_59 (a3 / a4) msx t0 msw)))
def JX9_step_25   (a2 : Int32) (a3 : Int32) (a4 : Int32) (t0 : Int32) (msx : Int32) (msy : Int32) (msw : Int32) : Option (Int32 × Int32 × Int32) :=
  (if a4 = 0 then (JX9_step_42 a3 a4 0 t0 msy msw) else (gd_nz a4 (JX9_step_42 a3 a4 (a2 / a4) t0 msy msw)))
def fX9_step (sx : Int32) (sy : Int32) (sw : Int32) (p1 : Int32) (p2 : Int32) (p3 : Int32) : Option (Int32 × Int32 × Int32) :=
  (bd (fX9_divisor p1 p2) (fun v_1 => (bd (fX9_divisor v_1 p3) (fun v_2 => (if v_2 = 0 then (JX9_step_25 p2 p3 v_2 0 sx sy sw) else (gd_nz v_2 (JX9_step_25 p2 p3 v_2 (p1 / v_2) sx sy sw)))))))
abbrev rX9_step : Room := { frames := 1, cells := 0, slots := 0, locals := 24 }
set_option maxHeartbeats 40000000 in
set_option maxRecDepth 100000 in
theorem kX9_step (l : Launch) (G : GT) (h0 qDR qLA qLE qCE qFI qCO qCR qSI qSR qMO qBO qPX qPY qPZ qSX : Nat) (sz : Nat) (dr : Int32) (bo : Int32) (po : Int32) (sx : Int32) (sy : Int32) (sw : Int32) (tx : Int32) (ty : Int32) (tz : Int32) (DR : Nat → Int32) (LA : Nat → Int32) (LE : Nat → Int32) (CE : Nat → Int64) (FI : Nat → Int32) (CO : Nat → Int32) (CR : Nat → Int32) (SI : Nat → Int32) (SR : Nat → Int32) (MO : Nat → Int32) (BO : Nat → Int32) (PX : Nat → Int32) (PY : Nat → Int32) (PZ : Nat → Int32) (SX : Nat → Int32) (p1 : Int32) (p2 : Int32) (p3 : Int32) (res : Int32 × Int32 × Int32) (hF : fX9_step sx sy sw p1 p2 p3 = some res) : Met l yX9_step wsX9_step rX9_step (va_Pc [.ref h0, .int p1, .int p2, .int p3] (pW G sz (wMod G h0 qDR qLA qLE qCE qFI qCO qCR qSI qSR qMO qBO qPX qPY qPZ qSX dr bo po sx sy sw tx ty tz DR LA LE CE FI CO CR SI SR MO BO PX PY PZ SX))) (va_Qv (fun (u : Int32 × Int32 × Int32) => u = res) (fun u t => qW G (va_A (wMod G h0 qDR qLA qLE qCE qFI qCO qCR qSI qSR qMO qBO qPX qPY qPZ qSX dr bo po sx sy sw tx ty tz DR LA LE CE FI CO CR SI SR MO BO PX PY PZ SX) sz) (wMod G h0 qDR qLA qLE qCE qFI qCO qCR qSI qSR qMO qBO qPX qPY qPZ qSX dr bo po u.1 u.2.1 u.2.2 tx ty tz DR LA LE CE FI CO CR SI SR MO BO PX PY PZ SX) t) (va_A (wMod G h0 qDR qLA qLE qCE qFI qCO qCR qSI qSR qMO qBO qPX qPY qPZ qSX dr bo po sx sy sw tx ty tz DR LA LE CE FI CO CR SI SR MO BO PX PY PZ SX) sz)) 0 0 (va_A (wMod G h0 qDR qLA qLE qCE qFI qCO qCR qSI qSR qMO qBO qPX qPY qPZ qSX dr bo po sx sy sw tx ty tz DR LA LE CE FI CO CR SI SR MO BO PX PY PZ SX) sz) := by
  refine Met.ofW (cc := cX9_step) (maxL := 5) (ret := none) (by decide) rfl ?_
  intro p e s m args below meth c s₁ B hml hv
  obtain ⟨rfl, hsz, hP, hK, hD0⟩ := hv
  have hx := B.exec
  have hb := B.bytes
  have hr := B.returns
  have hts := atoms_spec (ws := wsX9_step) B.pre
  have hown : s.vm.findClass RX9 = some m.cls := findClass_of_methodNamed B.named
  have hlocks := B.notSynchronized
  subst hsz
  have hD := hD0.self (sz := s.heap.size)
  generalize hAe : va_A (wMod G h0 qDR qLA qLE qCE qFI qCO qCR qSI qSR qMO qBO qPX qPY qPZ qSX dr bo po sx sy sw tx ty tz DR LA LE CE FI CO CR SI SR MO BO PX PY PZ SX) s.heap.size = A at hD ⊢
  have hA : ∀ q : Nat, s.heap.size ≤ q → A q := fun q h => by rw [← hAe]; exact Or.inr h
  have hS : va_S A s.heap s.heap [] := va_S.rf
  have hin9 : ∀ w ∈ u_ws RX9 TX9 24, w ∈ wsX9_step := by decide +kernel
  have hfl85 := hts (.fieldLink RX9 85 "SwellBodiesModel" "sx" "I") (by decide +kernel)
  have hfl88 := hts (.fieldLink RX9 88 "SwellBodiesModel" "sy" "I") (by decide +kernel)
  have hfl91 := hts (.fieldLink RX9 91 "SwellBodiesModel" "sz" "I") (by decide +kernel)
  have hl := lv_entry ([.ref h0, .int p1, .int p2, .int p3]) (n := 5) (Nat.le_of_ble_eq_true rfl)
  rw [lg_entry_eq]
  generalize (lg_sl ([.ref h0, .int p1, .int p2, .int p3]) ++ List.replicate (5 - (lg_sl ([.ref h0, .int p1, .int p2, .int p3])).length) Slot.unset).toArray = ls at hl ⊢
  have hl : lv_has ls 5 [(0, .ref h0), (1, .int p1), (2, .int p2), (3, .int p3)] := hl
  have hJ59 : ∀ (t0 : Int32) (msx : Int32) (msy : Int32) (msw : Int32) (H : Heap) (locs : List Loc) (ls : Array Slot), JX9_step_59 t0 msx msy msw = some res → va_P (gD G) vwCl (wMod G h0 qDR qLA qLE qCE qFI qCO qCR qSI qSR qMO qBO qPX qPY qPZ qSX dr bo po msx msy msw tx ty tz DR LA LE CE FI CO CR SI SR MO BO PX PY PZ SX) H → va_D A (wMod G h0 qDR qLA qLE qCE qFI qCO qCR qSI qSR qMO qBO qPX qPY qPZ qSX dr bo po msx msy msw tx ty tz DR LA LE CE FI CO CR SI SR MO BO PX PY PZ SX) → va_S A s.heap H locs → lv_has ls 5 [] → W p l e (headSpec wsX9_step rX9_step).room s m ([.ref h0, .int p1, .int p2, .int p3] : List Value).toArray below meth c H locs 0 0 (MQ below (va_Qv (fun (u : Int32 × Int32 × Int32) => u = res) (fun u t => qW G A (wMod G h0 qDR qLA qLE qCE qFI qCO qCR qSI qSR qMO qBO qPX qPY qPZ qSX dr bo po u.1 u.2.1 u.2.2 tx ty tz DR LA LE CE FI CO CR SI SR MO BO PX PY PZ SX) t) A) ([.ref h0, .int p1, .int p2, .int p3] : List Value).toArray s 0 0 A) (F0 m 59 ls [.int t0, .ref h0]) := by
    intro t0 msx msy msw H locs ls hF hP hD hS hl
    unfold JX9_step_59 at hF
    refine va_put (ci := 9) (v := .int t0) (ty := .int) (C := RX9) (T := TX9) (N := 24) hx hb hts hin9 tyX9 tyX9_ok nmX9 hown hK hP hD hS 0 rfl rfl 19 (by decide) hfl91 (fun _ h9 => h9) rfl (by decide +kernel) rfl rfl (Nat.le_of_ble_eq_true rfl) dX9_step_59 (fun H locs hP hD hS => ?_)
    have hP : va_P (gD G) vwCl (wMod G h0 qDR qLA qLE qCE qFI qCO qCR qSI qSR qMO qBO qPX qPY qPZ qSX dr bo po msx msy t0 tx ty tz DR LA LE CE FI CO CR SI SR MO BO PX PY PZ SX) H := hP
    have hD : va_D A (wMod G h0 qDR qLA qLE qCE qFI qCO qCR qSI qSR qMO qBO qPX qPY qPZ qSX dr bo po msx msy t0 tx ty tz DR LA LE CE FI CO CR SI SR MO BO PX PY PZ SX) := hD
    exact W.vret hx hb hr (fun t ht hW => ⟨⟨(msx, msy, t0), rfl, so_e hF, qW_mk ht hP hK hW hD⟩, hS.F ht⟩) hS.2.2 dX9_step_62
  have hJ42 : ∀ (a3 : Int32) (a4 : Int32) (t0 : Int32) (msx : Int32) (msy : Int32) (msw : Int32) (H : Heap) (locs : List Loc) (ls : Array Slot), JX9_step_42 a3 a4 t0 msx msy msw = some res → va_P (gD G) vwCl (wMod G h0 qDR qLA qLE qCE qFI qCO qCR qSI qSR qMO qBO qPX qPY qPZ qSX dr bo po msx msy msw tx ty tz DR LA LE CE FI CO CR SI SR MO BO PX PY PZ SX) H → va_D A (wMod G h0 qDR qLA qLE qCE qFI qCO qCR qSI qSR qMO qBO qPX qPY qPZ qSX dr bo po msx msy msw tx ty tz DR LA LE CE FI CO CR SI SR MO BO PX PY PZ SX) → va_S A s.heap H locs → lv_has ls 5 [(0, .ref h0), (3, .int a3), (4, .int a4)] → W p l e (headSpec wsX9_step rX9_step).room s m ([.ref h0, .int p1, .int p2, .int p3] : List Value).toArray below meth c H locs 0 0 (MQ below (va_Qv (fun (u : Int32 × Int32 × Int32) => u = res) (fun u t => qW G A (wMod G h0 qDR qLA qLE qCE qFI qCO qCR qSI qSR qMO qBO qPX qPY qPZ qSX dr bo po u.1 u.2.1 u.2.2 tx ty tz DR LA LE CE FI CO CR SI SR MO BO PX PY PZ SX) t) A) ([.ref h0, .int p1, .int p2, .int p3] : List Value).toArray s 0 0 A) (F0 m 42 ls [.int t0, .ref h0]) := by
    intro a3 a4 t0 msx msy msw H locs ls hF hP hD hS hl
    unfold JX9_step_42 at hF
    refine va_put (ci := 9) (v := .int t0) (ty := .int) (C := RX9) (T := TX9) (N := 24) hx hb hts hin9 tyX9 tyX9_ok nmX9 hown hK hP hD hS 0 rfl rfl 18 (by decide) hfl88 (fun _ h9 => h9) rfl (by decide +kernel) rfl rfl (Nat.le_of_ble_eq_true rfl) dX9_step_42 (fun H locs hP hD hS => ?_)
    have hP : va_P (gD G) vwCl (wMod G h0 qDR qLA qLE qCE qFI qCO qCR qSI qSR qMO qBO qPX qPY qPZ qSX dr bo po msx t0 msw tx ty tz DR LA LE CE FI CO CR SI SR MO BO PX PY PZ SX) H := hP
    have hD : va_D A (wMod G h0 qDR qLA qLE qCE qFI qCO qCR qSI qSR qMO qBO qPX qPY qPZ qSX dr bo po msx t0 msw tx ty tz DR LA LE CE FI CO CR SI SR MO BO PX PY PZ SX) := hD
    refine lv_aload_n hx hb dX9_step_45 rfl (lv_at hl 0 rfl) ?_
    refine lv_iload hx hb dX9_step_46 (lv_at hl 2 rfl) ?_
    refine lv_if_ne (tgt := 55) hx hb dX9_step_48 (by decide) (fun c_7 => ?_) (fun c_7 => ?_)
    · replace hF := it_n c_7 hF
      refine lv_iload_n hx hb dX9_step_55 rfl (lv_at hl 1 rfl) ?_
      refine lv_iload hx hb dX9_step_56 (lv_at hl 2 rfl) ?_
      obtain ⟨hz_8, hF⟩ := gd_nz_s hF
      refine lv_idiv hx hb dX9_step_58 hz_8 ?_
      exact hJ59 (a3 / a4) msx t0 msw _ _ _ hF hP hD hS (lv_sub hl [] rfl)
    · replace hF := it_p c_7 hF
      refine lv_iconst (v := 0) hx hb dX9_step_51 (by decide) ?_
      refine lv_goto (tgt := 59) hx hb dX9_step_52 (by decide) ?_
      exact hJ59 0 msx t0 msw _ _ _ hF hP hD hS (lv_sub hl [] rfl)
  have hJ25 : ∀ (a2 : Int32) (a3 : Int32) (a4 : Int32) (t0 : Int32) (msx : Int32) (msy : Int32) (msw : Int32) (H : Heap) (locs : List Loc) (ls : Array Slot), JX9_step_25 a2 a3 a4 t0 msx msy msw = some res → va_P (gD G) vwCl (wMod G h0 qDR qLA qLE qCE qFI qCO qCR qSI qSR qMO qBO qPX qPY qPZ qSX dr bo po msx msy msw tx ty tz DR LA LE CE FI CO CR SI SR MO BO PX PY PZ SX) H → va_D A (wMod G h0 qDR qLA qLE qCE qFI qCO qCR qSI qSR qMO qBO qPX qPY qPZ qSX dr bo po msx msy msw tx ty tz DR LA LE CE FI CO CR SI SR MO BO PX PY PZ SX) → va_S A s.heap H locs → lv_has ls 5 [(0, .ref h0), (2, .int a2), (3, .int a3), (4, .int a4)] → W p l e (headSpec wsX9_step rX9_step).room s m ([.ref h0, .int p1, .int p2, .int p3] : List Value).toArray below meth c H locs 0 0 (MQ below (va_Qv (fun (u : Int32 × Int32 × Int32) => u = res) (fun u t => qW G A (wMod G h0 qDR qLA qLE qCE qFI qCO qCR qSI qSR qMO qBO qPX qPY qPZ qSX dr bo po u.1 u.2.1 u.2.2 tx ty tz DR LA LE CE FI CO CR SI SR MO BO PX PY PZ SX) t) A) ([.ref h0, .int p1, .int p2, .int p3] : List Value).toArray s 0 0 A) (F0 m 25 ls [.int t0, .ref h0]) := by
    intro a2 a3 a4 t0 msx msy msw H locs ls hF hP hD hS hl
    unfold JX9_step_25 at hF
    refine va_put (ci := 9) (v := .int t0) (ty := .int) (C := RX9) (T := TX9) (N := 24) hx hb hts hin9 tyX9 tyX9_ok nmX9 hown hK hP hD hS 0 rfl rfl 17 (by decide) hfl85 (fun _ h9 => h9) rfl (by decide +kernel) rfl rfl (Nat.le_of_ble_eq_true rfl) dX9_step_25 (fun H locs hP hD hS => ?_)
    have hP : va_P (gD G) vwCl (wMod G h0 qDR qLA qLE qCE qFI qCO qCR qSI qSR qMO qBO qPX qPY qPZ qSX dr bo po t0 msy msw tx ty tz DR LA LE CE FI CO CR SI SR MO BO PX PY PZ SX) H := hP
    have hD : va_D A (wMod G h0 qDR qLA qLE qCE qFI qCO qCR qSI qSR qMO qBO qPX qPY qPZ qSX dr bo po t0 msy msw tx ty tz DR LA LE CE FI CO CR SI SR MO BO PX PY PZ SX) := hD
    refine lv_aload_n hx hb dX9_step_28 rfl (lv_at hl 0 rfl) ?_
    refine lv_iload hx hb dX9_step_29 (lv_at hl 3 rfl) ?_
    refine lv_if_ne (tgt := 38) hx hb dX9_step_31 (by decide) (fun c_5 => ?_) (fun c_5 => ?_)
    · replace hF := it_n c_5 hF
      refine lv_iload_n hx hb dX9_step_38 rfl (lv_at hl 1 rfl) ?_
      refine lv_iload hx hb dX9_step_39 (lv_at hl 3 rfl) ?_
      obtain ⟨hz_6, hF⟩ := gd_nz_s hF
      refine lv_idiv hx hb dX9_step_41 hz_6 ?_
      exact hJ42 a3 a4 (a2 / a4) t0 msy msw _ _ _ hF hP hD hS (lv_sub hl [0, 2, 3] rfl)
    · replace hF := it_p c_5 hF
      refine lv_iconst (v := 0) hx hb dX9_step_34 (by decide) ?_
      refine lv_goto (tgt := 42) hx hb dX9_step_35 (by decide) ?_
      exact hJ42 a3 a4 0 t0 msy msw _ _ _ hF hP hD hS (lv_sub hl [0, 2, 3] rfl)
  unfold fX9_step at hF
  refine lv_iload_n hx hb dX9_step_0 rfl (lv_at hl 1 rfl) ?_
  refine lv_iload_n hx hb dX9_step_1 rfl (lv_at hl 2 rfl) ?_
  obtain ⟨v_1, hv_1, hF⟩ := bd_s hF
  refine ro_ie (va_runS (As := [.int p1, .int p2]) (rest := []) ⟨hx, hb, hml, hown, hts⟩ (kX9_divisor l G p1 p2 v_1 hv_1) (va_cwS 2 hts gX9_step_X9_divisor rfl rfl rfl (by decide +kernel) ⟨Nat.le_of_ble_eq_true rfl, Nat.le_of_ble_eq_true rfl⟩) (psR hK (hP.sub (ws' := ([] : va_W)) [] rfl)) rfl rfl hl.1 rfl (lv_room (Nat.le_of_ble_eq_true rfl)) dX9_step_2 ⟨Nat.le_of_ble_eq_true rfl, Nat.le_of_ble_eq_true rfl⟩) ?_
  refine lv_iload_n hx hb dX9_step_5 rfl (lv_at hl 3 rfl) ?_
  obtain ⟨v_2, hv_2, hF⟩ := bd_s hF
  refine ro_ie (va_runS (As := [.int v_1, .int p3]) (rest := []) ⟨hx, hb, hml, hown, hts⟩ (kX9_divisor l G v_1 p3 v_2 hv_2) (va_cwS 2 hts gX9_step_X9_divisor rfl rfl rfl (by decide +kernel) ⟨Nat.le_of_ble_eq_true rfl, Nat.le_of_ble_eq_true rfl⟩) (psR hK (hP.sub (ws' := ([] : va_W)) [] rfl)) rfl rfl hl.1 rfl (lv_room (Nat.le_of_ble_eq_true rfl)) dX9_step_6 ⟨Nat.le_of_ble_eq_true rfl, Nat.le_of_ble_eq_true rfl⟩) ?_
  refine lv_istore (lv' := [(4, .int v_2), (0, .ref h0), (1, .int p1), (2, .int p2), (3, .int p3)]) hx hb dX9_step_9 hl (by decide) rfl (fun ls hl => ?_)
  refine lv_aload_n hx hb dX9_step_11 rfl (lv_at hl 1 rfl) ?_
  refine lv_iload hx hb dX9_step_12 (lv_at hl 0 rfl) ?_
  refine lv_if_ne (tgt := 21) hx hb dX9_step_14 (by decide) (fun c_3 => ?_) (fun c_3 => ?_)
  · replace hF := it_n c_3 hF
    refine lv_iload_n hx hb dX9_step_21 rfl (lv_at hl 2 rfl) ?_
    refine lv_iload hx hb dX9_step_22 (lv_at hl 0 rfl) ?_
    obtain ⟨hz_4, hF⟩ := gd_nz_s hF
    refine lv_idiv hx hb dX9_step_24 hz_4 ?_
    exact hJ25 p2 p3 v_2 (p1 / v_2) sx sy sw _ _ _ hF hP hD hS (lv_sub hl [1, 3, 4, 0] rfl)
  · replace hF := it_p c_3 hF
    refine lv_iconst (v := 0) hx hb dX9_step_17 (by decide) ?_
    refine lv_goto (tgt := 25) hx hb dX9_step_18 (by decide) ?_
    exact hJ25 p2 p3 v_2 0 sx sy sw _ _ _ hF hP hD hS (lv_sub hl [1, 3, 4, 0] rfl)
def fX9_square (sx : Int32) (sy : Int32) (sw : Int32) (p1 : Int32) (p2 : Int32) (p3 : Int32) (p4 : Int32) (p5 : Int32) (p6 : Int32) : Option (Int32 × Int32 × Int32) :=
  (bd (fX9_step sx sy sw ((p2 * p6) - (p3 * p5)) ((p3 * p4) - (p1 * p6)) ((p1 * p5) - (p2 * p4))) (fun v_1 => (some (v_1.1, v_1.2.1, v_1.2.2))))
abbrev rX9_square : Room := { frames := 2, cells := 0, slots := 0, locals := 48 }
set_option maxHeartbeats 40000000 in
set_option maxRecDepth 100000 in
theorem kX9_square (l : Launch) (G : GT) (h0 qDR qLA qLE qCE qFI qCO qCR qSI qSR qMO qBO qPX qPY qPZ qSX : Nat) (sz : Nat) (dr : Int32) (bo : Int32) (po : Int32) (sx : Int32) (sy : Int32) (sw : Int32) (tx : Int32) (ty : Int32) (tz : Int32) (DR : Nat → Int32) (LA : Nat → Int32) (LE : Nat → Int32) (CE : Nat → Int64) (FI : Nat → Int32) (CO : Nat → Int32) (CR : Nat → Int32) (SI : Nat → Int32) (SR : Nat → Int32) (MO : Nat → Int32) (BO : Nat → Int32) (PX : Nat → Int32) (PY : Nat → Int32) (PZ : Nat → Int32) (SX : Nat → Int32) (p1 : Int32) (p2 : Int32) (p3 : Int32) (p4 : Int32) (p5 : Int32) (p6 : Int32) (res : Int32 × Int32 × Int32) (hF : fX9_square sx sy sw p1 p2 p3 p4 p5 p6 = some res) : Met l yX9_square wsX9_square rX9_square (va_Pc [.ref h0, .int p1, .int p2, .int p3, .int p4, .int p5, .int p6] (pW G sz (wMod G h0 qDR qLA qLE qCE qFI qCO qCR qSI qSR qMO qBO qPX qPY qPZ qSX dr bo po sx sy sw tx ty tz DR LA LE CE FI CO CR SI SR MO BO PX PY PZ SX))) (va_Qv (fun (u : Int32 × Int32 × Int32) => u = res) (fun u t => qW G (va_A (wMod G h0 qDR qLA qLE qCE qFI qCO qCR qSI qSR qMO qBO qPX qPY qPZ qSX dr bo po sx sy sw tx ty tz DR LA LE CE FI CO CR SI SR MO BO PX PY PZ SX) sz) (wMod G h0 qDR qLA qLE qCE qFI qCO qCR qSI qSR qMO qBO qPX qPY qPZ qSX dr bo po u.1 u.2.1 u.2.2 tx ty tz DR LA LE CE FI CO CR SI SR MO BO PX PY PZ SX) t) (va_A (wMod G h0 qDR qLA qLE qCE qFI qCO qCR qSI qSR qMO qBO qPX qPY qPZ qSX dr bo po sx sy sw tx ty tz DR LA LE CE FI CO CR SI SR MO BO PX PY PZ SX) sz)) 0 0 (va_A (wMod G h0 qDR qLA qLE qCE qFI qCO qCR qSI qSR qMO qBO qPX qPY qPZ qSX dr bo po sx sy sw tx ty tz DR LA LE CE FI CO CR SI SR MO BO PX PY PZ SX) sz) := by
  refine Met.ofW (cc := cX9_square) (maxL := 7) (ret := none) (by decide) rfl ?_
  intro p e s m args below meth c s₁ B hml hv
  obtain ⟨rfl, hsz, hP, hK, hD0⟩ := hv
  have hx := B.exec
  have hb := B.bytes
  have hr := B.returns
  have hts := atoms_spec (ws := wsX9_square) B.pre
  have hown : s.vm.findClass RX9 = some m.cls := findClass_of_methodNamed B.named
  have hlocks := B.notSynchronized
  subst hsz
  have hD := hD0.self (sz := s.heap.size)
  generalize hAe : va_A (wMod G h0 qDR qLA qLE qCE qFI qCO qCR qSI qSR qMO qBO qPX qPY qPZ qSX dr bo po sx sy sw tx ty tz DR LA LE CE FI CO CR SI SR MO BO PX PY PZ SX) s.heap.size = A at hD ⊢
  have hA : ∀ q : Nat, s.heap.size ≤ q → A q := fun q h => by rw [← hAe]; exact Or.inr h
  have hS : va_S A s.heap s.heap [] := va_S.rf
  have hl := lv_entry ([.ref h0, .int p1, .int p2, .int p3, .int p4, .int p5, .int p6]) (n := 7) (Nat.le_of_ble_eq_true rfl)
  rw [lg_entry_eq]
  generalize (lg_sl ([.ref h0, .int p1, .int p2, .int p3, .int p4, .int p5, .int p6]) ++ List.replicate (7 - (lg_sl ([.ref h0, .int p1, .int p2, .int p3, .int p4, .int p5, .int p6])).length) Slot.unset).toArray = ls at hl ⊢
  have hl : lv_has ls 7 [(0, .ref h0), (1, .int p1), (2, .int p2), (3, .int p3), (4, .int p4), (5, .int p5), (6, .int p6)] := hl
  unfold fX9_square at hF
  refine lv_aload_n hx hb dX9_square_0 rfl (lv_at hl 0 rfl) ?_
  refine lv_iload_n hx hb dX9_square_1 rfl (lv_at hl 2 rfl) ?_
  refine lv_iload hx hb dX9_square_2 (lv_at hl 6 rfl) ?_
  refine lv_imul hx hb dX9_square_4 ?_
  refine lv_iload_n hx hb dX9_square_5 rfl (lv_at hl 3 rfl) ?_
  refine lv_iload hx hb dX9_square_6 (lv_at hl 5 rfl) ?_
  refine lv_imul hx hb dX9_square_8 ?_
  refine lv_isub hx hb dX9_square_9 ?_
  refine lv_iload_n hx hb dX9_square_10 rfl (lv_at hl 3 rfl) ?_
  refine lv_iload hx hb dX9_square_11 (lv_at hl 4 rfl) ?_
  refine lv_imul hx hb dX9_square_13 ?_
  refine lv_iload_n hx hb dX9_square_14 rfl (lv_at hl 1 rfl) ?_
  refine lv_iload hx hb dX9_square_15 (lv_at hl 6 rfl) ?_
  refine lv_imul hx hb dX9_square_17 ?_
  refine lv_isub hx hb dX9_square_18 ?_
  refine lv_iload_n hx hb dX9_square_19 rfl (lv_at hl 1 rfl) ?_
  refine lv_iload hx hb dX9_square_20 (lv_at hl 5 rfl) ?_
  refine lv_imul hx hb dX9_square_22 ?_
  refine lv_iload_n hx hb dX9_square_23 rfl (lv_at hl 2 rfl) ?_
  refine lv_iload hx hb dX9_square_24 (lv_at hl 4 rfl) ?_
  refine lv_imul hx hb dX9_square_26 ?_
  refine lv_isub hx hb dX9_square_27 ?_
  obtain ⟨v_1, hv_1, hF⟩ := bd_s hF
  refine rw_ve (wf := (fun (u : Int32 × Int32 × Int32) => (wMod G h0 qDR qLA qLE qCE qFI qCO qCR qSI qSR qMO qBO qPX qPY qPZ qSX dr bo po u.1 u.2.1 u.2.2 tx ty tz DR LA LE CE FI CO CR SI SR MO BO PX PY PZ SX))) (wr := []) (va_runV (As := [.int ((p2 * p6) - (p3 * p5)), .int ((p3 * p4) - (p1 * p6)), .int ((p1 * p5) - (p2 * p4))]) (rest := []) ⟨hx, hb, hml, hown, hts⟩ (kX9_step l G h0 qDR qLA qLE qCE qFI qCO qCR qSI qSR qMO qBO qPX qPY qPZ qSX s.heap.size dr bo po sx sy sw tx ty tz DR LA LE CE FI CO CR SI SR MO BO PX PY PZ SX ((p2 * p6) - (p3 * p5)) ((p3 * p4) - (p1 * p6)) ((p1 * p5) - (p2 * p4)) v_1 hv_1) (cwV 3 hts gX9_square_X9_step rfl rfl rfl (by decide +kernel) ⟨Nat.le_of_ble_eq_true rfl, Nat.le_of_ble_eq_true rfl⟩) (pvW (q0 := 0) 9 hK (hP.sub (ws' := (wMod G h0 qDR qLA qLE qCE qFI qCO qCR qSI qSR qMO qBO qPX qPY qPZ qSX dr bo po sx sy sw tx ty tz DR LA LE CE FI CO CR SI SR MO BO PX PY PZ SX)) [0, 1, 2, 3, 4, 5, 6, 7, 8, 9, 10, 11, 12, 13, 14, 15] rfl) (hD.sub (ws' := (wMod G h0 qDR qLA qLE qCE qFI qCO qCR qSI qSR qMO qBO qPX qPY qPZ qSX dr bo po sx sy sw tx ty tz DR LA LE CE FI CO CR SI SR MO BO PX PY PZ SX)) [0, 1, 2, 3, 4, 5, 6, 7, 8, 9, 10, 11, 12, 13, 14, 15] (by decide) rfl) rfl rfl) rfl rfl hl.1 rfl (lv_room (Nat.le_of_ble_eq_true rfl)) dX9_square_28 ⟨Nat.le_of_ble_eq_true rfl, Nat.le_of_ble_eq_true rfl⟩) hP hD hS hA [0, 1, 2, 3, 4, 5, 6, 7, 8, 9, 10, 11, 12, 13, 14, 15] [] rfl rfl (by decide) (by decide) (fun H locs  hP hD hS => ?_)
  have hP : va_P (gD G) vwCl (wMod G h0 qDR qLA qLE qCE qFI qCO qCR qSI qSR qMO qBO qPX qPY qPZ qSX dr bo po v_1.1 v_1.2.1 v_1.2.2 tx ty tz DR LA LE CE FI CO CR SI SR MO BO PX PY PZ SX) H := hP.sub [0, 1, 2, 3, 4, 5, 6, 7, 8, 9, 10, 11, 12, 13, 14, 15] rfl
  have hD : va_D A (wMod G h0 qDR qLA qLE qCE qFI qCO qCR qSI qSR qMO qBO qPX qPY qPZ qSX dr bo po v_1.1 v_1.2.1 v_1.2.2 tx ty tz DR LA LE CE FI CO CR SI SR MO BO PX PY PZ SX) := hD.sub [0, 1, 2, 3, 4, 5, 6, 7, 8, 9, 10, 11, 12, 13, 14, 15] (by decide) rfl
  exact W.vret hx hb hr (fun t ht hW => ⟨⟨(v_1.1, v_1.2.1, v_1.2.2), rfl, so_e hF, qW_mk ht hP hK hW hD⟩, hS.F ht⟩) hS.2.2 dX9_square_31
def fX9_isNought (sx : Int32) (sy : Int32) (sw : Int32) : Option (Int32) :=
  (if sx = 0 then (if sy = 0 then (if sw = 0 then (some 1) else (some 0)) else (some 0)) else (some 0))
abbrev rX9_isNought : Room := { frames := 0, cells := 0, slots := 0, locals := 0 }
set_option maxHeartbeats 40000000 in
set_option maxRecDepth 100000 in
theorem kX9_isNought (l : Launch) (G : GT) (h0 qDR qLA qLE qCE qFI qCO qCR qSI qSR qMO qBO qPX qPY qPZ qSX : Nat) (dr : Int32) (bo : Int32) (po : Int32) (sx : Int32) (sy : Int32) (sw : Int32) (tx : Int32) (ty : Int32) (tz : Int32) (DR : Nat → Int32) (LA : Nat → Int32) (LE : Nat → Int32) (CE : Nat → Int64) (FI : Nat → Int32) (CO : Nat → Int32) (CR : Nat → Int32) (SI : Nat → Int32) (SR : Nat → Int32) (MO : Nat → Int32) (BO : Nat → Int32) (PX : Nat → Int32) (PY : Nat → Int32) (PZ : Nat → Int32) (SX : Nat → Int32) (res : Int32) (hF : fX9_isNought sx sy sw = some res) : Met l yX9_isNought wsX9_isNought rX9_isNought (va_Pc [.ref h0] (pR G (wMod G h0 qDR qLA qLE qCE qFI qCO qCR qSI qSR qMO qBO qPX qPY qPZ qSX dr bo po sx sy sw tx ty tz DR LA LE CE FI CO CR SI SR MO BO PX PY PZ SX))) (vp_Si (fun r => r = res ∧ (r = 0 ∨ r = 1))) 0 0 (fun _ => False) := by
  refine Met.ofW (cc := cX9_isNought) (maxL := 1) (ret := (some .boolean)) (by decide) rfl ?_
  intro p e s m args below meth c s₁ B hml hv
  obtain ⟨rfl, hP, hK⟩ := hv
  have hx := B.exec
  have hb := B.bytes
  have hr := B.returns
  have hts := atoms_spec (ws := wsX9_isNought) B.pre
  have hown : s.vm.findClass RX9 = some m.cls := findClass_of_methodNamed B.named
  have hlocks := B.notSynchronized
  have hin9 : ∀ w ∈ u_ws RX9 TX9 24, w ∈ wsX9_isNought := by decide +kernel
  have hfl85 := hts (.fieldLink RX9 85 "SwellBodiesModel" "sx" "I") (by decide +kernel)
  have hfl88 := hts (.fieldLink RX9 88 "SwellBodiesModel" "sy" "I") (by decide +kernel)
  have hfl91 := hts (.fieldLink RX9 91 "SwellBodiesModel" "sz" "I") (by decide +kernel)
  have hl := lv_entry ([.ref h0]) (n := 1) (Nat.le_of_ble_eq_true rfl)
  rw [lg_entry_eq]
  generalize (lg_sl ([.ref h0]) ++ List.replicate (1 - (lg_sl ([.ref h0])).length) Slot.unset).toArray = ls at hl ⊢
  have hl : lv_has ls 1 [(0, .ref h0)] := hl
  unfold fX9_isNought at hF
  refine lv_aload_n hx hb dX9_isNought_0 rfl (lv_at hl 0 rfl) ?_
  refine va_get (ci := 9) (v := .int sx) (C := RX9) (T := TX9) (N := 24) hx hb hts hin9 hown hK hP 0 rfl rfl 17 (by decide) hfl85 (fun _ h9 => h9) rfl dX9_isNought_1 ?_
  refine lv_if_ne (tgt := 25) hx hb dX9_isNought_4 (by decide) (fun c_1 => ?_) (fun c_1 => ?_)
  · replace hF := it_n c_1 hF
    refine lv_iconst (v := 0) hx hb dX9_isNought_25 (by decide) ?_
    exact W.zret (v := 0) hx hb hr (by first | rfl | (rcases hF with h | h <;> rw [h] <;> rfl)) (fun t ht hW => ⟨0, rfl, ⟨so_e hF, (by first | exact Or.inl rfl | exact Or.inr rfl | assumption)⟩, ht⟩) (fun q h => absurd h List.not_mem_nil) dX9_isNought_26
  · replace hF := it_p c_1 hF
    refine lv_aload_n hx hb dX9_isNought_7 rfl (lv_at hl 0 rfl) ?_
    refine va_get (ci := 9) (v := .int sy) (C := RX9) (T := TX9) (N := 24) hx hb hts hin9 hown hK hP 0 rfl rfl 18 (by decide) hfl88 (fun _ h9 => h9) rfl dX9_isNought_8 ?_
    refine lv_if_ne (tgt := 25) hx hb dX9_isNought_11 (by decide) (fun c_2 => ?_) (fun c_2 => ?_)
    · replace hF := it_n c_2 hF
      refine lv_iconst (v := 0) hx hb dX9_isNought_25 (by decide) ?_
      exact W.zret (v := 0) hx hb hr (by first | rfl | (rcases hF with h | h <;> rw [h] <;> rfl)) (fun t ht hW => ⟨0, rfl, ⟨so_e hF, (by first | exact Or.inl rfl | exact Or.inr rfl | assumption)⟩, ht⟩) (fun q h => absurd h List.not_mem_nil) dX9_isNought_26
    · replace hF := it_p c_2 hF
      refine lv_aload_n hx hb dX9_isNought_14 rfl (lv_at hl 0 rfl) ?_
      refine va_get (ci := 9) (v := .int sw) (C := RX9) (T := TX9) (N := 24) hx hb hts hin9 hown hK hP 0 rfl rfl 19 (by decide) hfl91 (fun _ h9 => h9) rfl dX9_isNought_15 ?_
      refine lv_if_ne (tgt := 25) hx hb dX9_isNought_18 (by decide) (fun c_3 => ?_) (fun c_3 => ?_)
      · replace hF := it_n c_3 hF
        refine lv_iconst (v := 0) hx hb dX9_isNought_25 (by decide) ?_
        exact W.zret (v := 0) hx hb hr (by first | rfl | (rcases hF with h | h <;> rw [h] <;> rfl)) (fun t ht hW => ⟨0, rfl, ⟨so_e hF, (by first | exact Or.inl rfl | exact Or.inr rfl | assumption)⟩, ht⟩) (fun q h => absurd h List.not_mem_nil) dX9_isNought_26
      · replace hF := it_p c_3 hF
        refine lv_iconst (v := 1) hx hb dX9_isNought_21 (by decide) ?_
        refine lv_goto (tgt := 26) hx hb dX9_isNought_22 (by decide) ?_
        exact W.zret (v := 1) hx hb hr (by first | rfl | (rcases hF with h | h <;> rw [h] <;> rfl)) (fun t ht hW => ⟨1, rfl, ⟨so_e hF, (by first | exact Or.inl rfl | exact Or.inr rfl | assumption)⟩, ht⟩) (fun q h => absurd h List.not_mem_nil) dX9_isNought_26
def fX9_along (sx : Int32) (sy : Int32) (sw : Int32) (PX : Nat → Int32) (PY : Nat → Int32) (PZ : Nat → Int32) (p1 : Int32) : Option (Int32) :=
  (gd_in p1 140 (some (((sx * (PX p1.toNatClampNeg)) + (sy * (PY p1.toNatClampNeg))) + (sw * (PZ p1.toNatClampNeg)))))
abbrev rX9_along : Room := { frames := 0, cells := 0, slots := 0, locals := 0 }
set_option maxHeartbeats 40000000 in
set_option maxRecDepth 100000 in
theorem kX9_along (l : Launch) (G : GT) (h0 qDR qLA qLE qCE qFI qCO qCR qSI qSR qMO qBO qPX qPY qPZ qSX : Nat) (dr : Int32) (bo : Int32) (po : Int32) (sx : Int32) (sy : Int32) (sw : Int32) (tx : Int32) (ty : Int32) (tz : Int32) (DR : Nat → Int32) (LA : Nat → Int32) (LE : Nat → Int32) (CE : Nat → Int64) (FI : Nat → Int32) (CO : Nat → Int32) (CR : Nat → Int32) (SI : Nat → Int32) (SR : Nat → Int32) (MO : Nat → Int32) (BO : Nat → Int32) (PX : Nat → Int32) (PY : Nat → Int32) (PZ : Nat → Int32) (SX : Nat → Int32) (p1 : Int32) (res : Int32) (hF : fX9_along sx sy sw PX PY PZ p1 = some res) : Met l yX9_along wsX9_along rX9_along (va_Pc [.ref h0, .int p1] (pR G (wMod G h0 qDR qLA qLE qCE qFI qCO qCR qSI qSR qMO qBO qPX qPY qPZ qSX dr bo po sx sy sw tx ty tz DR LA LE CE FI CO CR SI SR MO BO PX PY PZ SX))) (vp_Si (fun r => r = res)) 0 0 (fun _ => False) := by
  refine Met.ofW (cc := cX9_along) (maxL := 2) (ret := (some .int)) (by decide) rfl ?_
  intro p e s m args below meth c s₁ B hml hv
  obtain ⟨rfl, hP, hK⟩ := hv
  have hx := B.exec
  have hb := B.bytes
  have hr := B.returns
  have hts := atoms_spec (ws := wsX9_along) B.pre
  have hown : s.vm.findClass RX9 = some m.cls := findClass_of_methodNamed B.named
  have hlocks := B.notSynchronized
  have hin9 : ∀ w ∈ u_ws RX9 TX9 24, w ∈ wsX9_along := by decide +kernel
  have hfl85 := hts (.fieldLink RX9 85 "SwellBodiesModel" "sx" "I") (by decide +kernel)
  have hfl44 := hts (.fieldLink RX9 44 "SwellBodiesModel" "px" "[I") (by decide +kernel)
  have hfl88 := hts (.fieldLink RX9 88 "SwellBodiesModel" "sy" "I") (by decide +kernel)
  have hfl47 := hts (.fieldLink RX9 47 "SwellBodiesModel" "py" "[I") (by decide +kernel)
  have hfl91 := hts (.fieldLink RX9 91 "SwellBodiesModel" "sz" "I") (by decide +kernel)
  have hfl50 := hts (.fieldLink RX9 50 "SwellBodiesModel" "pz" "[I") (by decide +kernel)
  have hl := lv_entry ([.ref h0, .int p1]) (n := 2) (Nat.le_of_ble_eq_true rfl)
  rw [lg_entry_eq]
  generalize (lg_sl ([.ref h0, .int p1]) ++ List.replicate (2 - (lg_sl ([.ref h0, .int p1])).length) Slot.unset).toArray = ls at hl ⊢
  have hl : lv_has ls 2 [(0, .ref h0), (1, .int p1)] := hl
  unfold fX9_along at hF
  refine lv_aload_n hx hb dX9_along_0 rfl (lv_at hl 0 rfl) ?_
  refine va_get (ci := 9) (v := .int sx) (C := RX9) (T := TX9) (N := 24) hx hb hts hin9 hown hK hP 0 rfl rfl 17 (by decide) hfl85 (fun _ h9 => h9) rfl dX9_along_1 ?_
  refine lv_aload_n hx hb dX9_along_4 rfl (lv_at hl 0 rfl) ?_
  refine va_get (ci := 9) (v := .ref qPX) (C := RX9) (T := TX9) (N := 24) hx hb hts hin9 hown hK hP 0 rfl rfl 14 (by decide) hfl44 (fun _ h9 => h9) rfl dX9_along_5 ?_
  refine lv_iload_n hx hb dX9_along_8 rfl (lv_at hl 1 rfl) ?_
  obtain ⟨hi_1, hF⟩ := gd_in_s hF
  refine va_iald hx hb hK hP 12 0 rfl rfl hi_1 dX9_along_9 ?_
  refine lv_imul hx hb dX9_along_10 ?_
  refine lv_aload_n hx hb dX9_along_11 rfl (lv_at hl 0 rfl) ?_
  refine va_get (ci := 9) (v := .int sy) (C := RX9) (T := TX9) (N := 24) hx hb hts hin9 hown hK hP 0 rfl rfl 18 (by decide) hfl88 (fun _ h9 => h9) rfl dX9_along_12 ?_
  refine lv_aload_n hx hb dX9_along_15 rfl (lv_at hl 0 rfl) ?_
  refine va_get (ci := 9) (v := .ref qPY) (C := RX9) (T := TX9) (N := 24) hx hb hts hin9 hown hK hP 0 rfl rfl 15 (by decide) hfl47 (fun _ h9 => h9) rfl dX9_along_16 ?_
  refine lv_iload_n hx hb dX9_along_19 rfl (lv_at hl 1 rfl) ?_
  refine va_iald hx hb hK hP 13 0 rfl rfl hi_1 dX9_along_20 ?_
  refine lv_imul hx hb dX9_along_21 ?_
  refine lv_iadd hx hb dX9_along_22 ?_
  refine lv_aload_n hx hb dX9_along_23 rfl (lv_at hl 0 rfl) ?_
  refine va_get (ci := 9) (v := .int sw) (C := RX9) (T := TX9) (N := 24) hx hb hts hin9 hown hK hP 0 rfl rfl 19 (by decide) hfl91 (fun _ h9 => h9) rfl dX9_along_24 ?_
  refine lv_aload_n hx hb dX9_along_27 rfl (lv_at hl 0 rfl) ?_
  refine va_get (ci := 9) (v := .ref qPZ) (C := RX9) (T := TX9) (N := 24) hx hb hts hin9 hown hK hP 0 rfl rfl 16 (by decide) hfl50 (fun _ h9 => h9) rfl dX9_along_28 ?_
  refine lv_iload_n hx hb dX9_along_31 rfl (lv_at hl 1 rfl) ?_
  refine va_iald hx hb hK hP 14 0 rfl rfl hi_1 dX9_along_32 ?_
  refine lv_imul hx hb dX9_along_33 ?_
  refine lv_iadd hx hb dX9_along_34 ?_
  exact W.iret (v := ((sx * (PX p1.toNatClampNeg)) + (sy * (PY p1.toNatClampNeg))) + (sw * (PZ p1.toNatClampNeg))) hx hb hr  (fun t ht hW => ⟨((sx * (PX p1.toNatClampNeg)) + (sy * (PY p1.toNatClampNeg))) + (sw * (PZ p1.toNatClampNeg)), rfl, (so_e hF), ht⟩) (fun q h => absurd h List.not_mem_nil) dX9_along_35
def fX9_isLess (sx : Int32) (sy : Int32) (sw : Int32) (SR : Nat → Int32) (p1 : Int32) : Option (Int32) :=
  (gd_in p1 2880 (if SR p1.toNatClampNeg = sx then (gd_in (p1 + 1) 2880 (if SR (p1 + 1).toNatClampNeg = sy then (gd_in (p1 + 2) 2880 (if sw ≤ SR (p1 + 2).toNatClampNeg then (some 0) else (some 1))) else (if sy ≤ SR (p1 + 1).toNatClampNeg then (some 0) else (some 1)))) else (if sx ≤ SR p1.toNatClampNeg then (some 0) else (some 1))))
abbrev rX9_isLess : Room := { frames := 0, cells := 0, slots := 0, locals := 0 }
set_option maxHeartbeats 40000000 in
set_option maxRecDepth 100000 in
theorem kX9_isLess (l : Launch) (G : GT) (h0 qDR qLA qLE qCE qFI qCO qCR qSI qSR qMO qBO qPX qPY qPZ qSX : Nat) (dr : Int32) (bo : Int32) (po : Int32) (sx : Int32) (sy : Int32) (sw : Int32) (tx : Int32) (ty : Int32) (tz : Int32) (DR : Nat → Int32) (LA : Nat → Int32) (LE : Nat → Int32) (CE : Nat → Int64) (FI : Nat → Int32) (CO : Nat → Int32) (CR : Nat → Int32) (SI : Nat → Int32) (SR : Nat → Int32) (MO : Nat → Int32) (BO : Nat → Int32) (PX : Nat → Int32) (PY : Nat → Int32) (PZ : Nat → Int32) (SX : Nat → Int32) (p1 : Int32) (res : Int32) (hF : fX9_isLess sx sy sw SR p1 = some res) : Met l yX9_isLess wsX9_isLess rX9_isLess (va_Pc [.ref h0, .int p1] (pR G (wMod G h0 qDR qLA qLE qCE qFI qCO qCR qSI qSR qMO qBO qPX qPY qPZ qSX dr bo po sx sy sw tx ty tz DR LA LE CE FI CO CR SI SR MO BO PX PY PZ SX))) (vp_Si (fun r => r = res ∧ (r = 0 ∨ r = 1))) 0 0 (fun _ => False) := by
  refine Met.ofW (cc := cX9_isLess) (maxL := 2) (ret := (some .boolean)) (by decide) rfl ?_
  intro p e s m args below meth c s₁ B hml hv
  obtain ⟨rfl, hP, hK⟩ := hv
  have hx := B.exec
  have hb := B.bytes
  have hr := B.returns
  have hts := atoms_spec (ws := wsX9_isLess) B.pre
  have hown : s.vm.findClass RX9 = some m.cls := findClass_of_methodNamed B.named
  have hlocks := B.notSynchronized
  have hin9 : ∀ w ∈ u_ws RX9 TX9 24, w ∈ wsX9_isLess := by decide +kernel
  have hfl35 := hts (.fieldLink RX9 35 "SwellBodiesModel" "sideRow" "[I") (by decide +kernel)
  have hfl85 := hts (.fieldLink RX9 85 "SwellBodiesModel" "sx" "I") (by decide +kernel)
  have hfl88 := hts (.fieldLink RX9 88 "SwellBodiesModel" "sy" "I") (by decide +kernel)
  have hfl91 := hts (.fieldLink RX9 91 "SwellBodiesModel" "sz" "I") (by decide +kernel)
  have hl := lv_entry ([.ref h0, .int p1]) (n := 2) (Nat.le_of_ble_eq_true rfl)
  rw [lg_entry_eq]
  generalize (lg_sl ([.ref h0, .int p1]) ++ List.replicate (2 - (lg_sl ([.ref h0, .int p1])).length) Slot.unset).toArray = ls at hl ⊢
  have hl : lv_has ls 2 [(0, .ref h0), (1, .int p1)] := hl
  unfold fX9_isLess at hF
  refine lv_aload_n hx hb dX9_isLess_0 rfl (lv_at hl 0 rfl) ?_
  refine va_get (ci := 9) (v := .ref qSR) (C := RX9) (T := TX9) (N := 24) hx hb hts hin9 hown hK hP 0 rfl rfl 10 (by decide) hfl35 (fun _ h9 => h9) rfl dX9_isLess_1 ?_
  refine lv_iload_n hx hb dX9_isLess_4 rfl (lv_at hl 1 rfl) ?_
  obtain ⟨hi_1, hF⟩ := gd_in_s hF
  refine va_iald hx hb hK hP 9 0 rfl rfl hi_1 dX9_isLess_5 ?_
  refine lv_aload_n hx hb dX9_isLess_6 rfl (lv_at hl 0 rfl) ?_
  refine va_get (ci := 9) (v := .int sx) (C := RX9) (T := TX9) (N := 24) hx hb hts hin9 hown hK hP 0 rfl rfl 17 (by decide) hfl85 (fun _ h9 => h9) rfl dX9_isLess_7 ?_
  refine lv_icmp_eq (tgt := 34) hx hb dX9_isLess_10 (by decide) (fun c_2 => ?_) (fun c_2 => ?_)
  · replace hF := it_p c_2 hF
    refine lv_aload_n hx hb dX9_isLess_34 rfl (lv_at hl 0 rfl) ?_
    refine va_get (ci := 9) (v := .ref qSR) (C := RX9) (T := TX9) (N := 24) hx hb hts hin9 hown hK hP 0 rfl rfl 10 (by decide) hfl35 (fun _ h9 => h9) rfl dX9_isLess_35 ?_
    refine lv_iload_n hx hb dX9_isLess_38 rfl (lv_at hl 1 rfl) ?_
    refine lv_iconst (v := 1) hx hb dX9_isLess_39 (by decide) ?_
    refine lv_iadd hx hb dX9_isLess_40 ?_
    obtain ⟨hi_3, hF⟩ := gd_in_s hF
    refine va_iald hx hb hK hP 9 0 rfl rfl hi_3 dX9_isLess_41 ?_
    refine lv_aload_n hx hb dX9_isLess_42 rfl (lv_at hl 0 rfl) ?_
    refine va_get (ci := 9) (v := .int sy) (C := RX9) (T := TX9) (N := 24) hx hb hts hin9 hown hK hP 0 rfl rfl 18 (by decide) hfl88 (fun _ h9 => h9) rfl dX9_isLess_43 ?_
    refine lv_icmp_eq (tgt := 72) hx hb dX9_isLess_46 (by decide) (fun c_4 => ?_) (fun c_4 => ?_)
    · replace hF := it_p c_4 hF
      refine lv_aload_n hx hb dX9_isLess_72 rfl (lv_at hl 0 rfl) ?_
      refine va_get (ci := 9) (v := .ref qSR) (C := RX9) (T := TX9) (N := 24) hx hb hts hin9 hown hK hP 0 rfl rfl 10 (by decide) hfl35 (fun _ h9 => h9) rfl dX9_isLess_73 ?_
      refine lv_iload_n hx hb dX9_isLess_76 rfl (lv_at hl 1 rfl) ?_
      refine lv_iconst (v := 2) hx hb dX9_isLess_77 (by decide) ?_
      refine lv_iadd hx hb dX9_isLess_78 ?_
      obtain ⟨hi_5, hF⟩ := gd_in_s hF
      refine va_iald hx hb hK hP 9 0 rfl rfl hi_5 dX9_isLess_79 ?_
      refine lv_aload_n hx hb dX9_isLess_80 rfl (lv_at hl 0 rfl) ?_
      refine va_get (ci := 9) (v := .int sw) (C := RX9) (T := TX9) (N := 24) hx hb hts hin9 hown hK hP 0 rfl rfl 19 (by decide) hfl91 (fun _ h9 => h9) rfl dX9_isLess_81 ?_
      refine lv_icmp_ge (tgt := 91) hx hb dX9_isLess_84 (by decide) (fun c_6 => ?_) (fun c_6 => ?_)
      · replace hF := it_p c_6 hF
        refine lv_iconst (v := 0) hx hb dX9_isLess_91 (by decide) ?_
        exact W.zret (v := 0) hx hb hr (by first | rfl | (rcases hF with h | h <;> rw [h] <;> rfl)) (fun t ht hW => ⟨0, rfl, ⟨so_e hF, (by first | exact Or.inl rfl | exact Or.inr rfl | assumption)⟩, ht⟩) (fun q h => absurd h List.not_mem_nil) dX9_isLess_92
      · replace hF := it_n c_6 hF
        refine lv_iconst (v := 1) hx hb dX9_isLess_87 (by decide) ?_
        refine lv_goto (tgt := 92) hx hb dX9_isLess_88 (by decide) ?_
        exact W.zret (v := 1) hx hb hr (by first | rfl | (rcases hF with h | h <;> rw [h] <;> rfl)) (fun t ht hW => ⟨1, rfl, ⟨so_e hF, (by first | exact Or.inl rfl | exact Or.inr rfl | assumption)⟩, ht⟩) (fun q h => absurd h List.not_mem_nil) dX9_isLess_92
    · replace hF := it_n c_4 hF
      refine lv_aload_n hx hb dX9_isLess_49 rfl (lv_at hl 0 rfl) ?_
      refine va_get (ci := 9) (v := .ref qSR) (C := RX9) (T := TX9) (N := 24) hx hb hts hin9 hown hK hP 0 rfl rfl 10 (by decide) hfl35 (fun _ h9 => h9) rfl dX9_isLess_50 ?_
      refine lv_iload_n hx hb dX9_isLess_53 rfl (lv_at hl 1 rfl) ?_
      refine lv_iconst (v := 1) hx hb dX9_isLess_54 (by decide) ?_
      refine lv_iadd hx hb dX9_isLess_55 ?_
      refine va_iald hx hb hK hP 9 0 rfl rfl hi_3 dX9_isLess_56 ?_
      refine lv_aload_n hx hb dX9_isLess_57 rfl (lv_at hl 0 rfl) ?_
      refine va_get (ci := 9) (v := .int sy) (C := RX9) (T := TX9) (N := 24) hx hb hts hin9 hown hK hP 0 rfl rfl 18 (by decide) hfl88 (fun _ h9 => h9) rfl dX9_isLess_58 ?_
      refine lv_icmp_ge (tgt := 68) hx hb dX9_isLess_61 (by decide) (fun c_7 => ?_) (fun c_7 => ?_)
      · replace hF := it_p c_7 hF
        refine lv_iconst (v := 0) hx hb dX9_isLess_68 (by decide) ?_
        refine lv_goto (tgt := 92) hx hb dX9_isLess_69 (by decide) ?_
        exact W.zret (v := 0) hx hb hr (by first | rfl | (rcases hF with h | h <;> rw [h] <;> rfl)) (fun t ht hW => ⟨0, rfl, ⟨so_e hF, (by first | exact Or.inl rfl | exact Or.inr rfl | assumption)⟩, ht⟩) (fun q h => absurd h List.not_mem_nil) dX9_isLess_92
      · replace hF := it_n c_7 hF
        refine lv_iconst (v := 1) hx hb dX9_isLess_64 (by decide) ?_
        refine lv_goto (tgt := 92) hx hb dX9_isLess_65 (by decide) ?_
        exact W.zret (v := 1) hx hb hr (by first | rfl | (rcases hF with h | h <;> rw [h] <;> rfl)) (fun t ht hW => ⟨1, rfl, ⟨so_e hF, (by first | exact Or.inl rfl | exact Or.inr rfl | assumption)⟩, ht⟩) (fun q h => absurd h List.not_mem_nil) dX9_isLess_92
  · replace hF := it_n c_2 hF
    refine lv_aload_n hx hb dX9_isLess_13 rfl (lv_at hl 0 rfl) ?_
    refine va_get (ci := 9) (v := .ref qSR) (C := RX9) (T := TX9) (N := 24) hx hb hts hin9 hown hK hP 0 rfl rfl 10 (by decide) hfl35 (fun _ h9 => h9) rfl dX9_isLess_14 ?_
    refine lv_iload_n hx hb dX9_isLess_17 rfl (lv_at hl 1 rfl) ?_
    refine va_iald hx hb hK hP 9 0 rfl rfl hi_1 dX9_isLess_18 ?_
    refine lv_aload_n hx hb dX9_isLess_19 rfl (lv_at hl 0 rfl) ?_
    refine va_get (ci := 9) (v := .int sx) (C := RX9) (T := TX9) (N := 24) hx hb hts hin9 hown hK hP 0 rfl rfl 17 (by decide) hfl85 (fun _ h9 => h9) rfl dX9_isLess_20 ?_
    refine lv_icmp_ge (tgt := 30) hx hb dX9_isLess_23 (by decide) (fun c_8 => ?_) (fun c_8 => ?_)
    · replace hF := it_p c_8 hF
      refine lv_iconst (v := 0) hx hb dX9_isLess_30 (by decide) ?_
      refine lv_goto (tgt := 92) hx hb dX9_isLess_31 (by decide) ?_
      exact W.zret (v := 0) hx hb hr (by first | rfl | (rcases hF with h | h <;> rw [h] <;> rfl)) (fun t ht hW => ⟨0, rfl, ⟨so_e hF, (by first | exact Or.inl rfl | exact Or.inr rfl | assumption)⟩, ht⟩) (fun q h => absurd h List.not_mem_nil) dX9_isLess_92
    · replace hF := it_n c_8 hF
      refine lv_iconst (v := 1) hx hb dX9_isLess_26 (by decide) ?_
      refine lv_goto (tgt := 92) hx hb dX9_isLess_27 (by decide) ?_
      exact W.zret (v := 1) hx hb hr (by first | rfl | (rcases hF with h | h <;> rw [h] <;> rfl)) (fun t ht hW => ⟨1, rfl, ⟨so_e hF, (by first | exact Or.inl rfl | exact Or.inr rfl | assumption)⟩, ht⟩) (fun q h => absurd h List.not_mem_nil) dX9_isLess_92
def LX9_side_155 (po : Int32) (sx : Int32) (sy : Int32) (sw : Int32) (PX : Nat → Int32) (PY : Nat → Int32) (PZ : Nat → Int32)  : Nat → Int32 → Int32 → Int32 → Int32 → Int32 → Int32 → (Nat → Int32) → (Nat → Int32) → Option ((Nat → Int32) × (Nat → Int32))
  | 0, _, _, _, _, _, _, _, _ => none
  | k + 1, a1, a3, a4, a5, a6, a7, mSI, mSR =>
  (if a7 < 4 * a5 then (gd_in a6 2880 (gd_in (a6 + 1) 2880 (gd_in (a6 + 2) 2880 (gd_in (a6 + 3) 2880 (gd_in a1 8 (some (upd mSI a1.toNatClampNeg ((mSI a1.toNatClampNeg) + 1), upd (upd (upd (upd mSR a6.toNatClampNeg sx) (a6 + 1).toNatClampNeg sy) (a6 + 2).toNatClampNeg sw) (a6 + 3).toNatClampNeg a3))))))) else (gd_in (a4 + a7) 2880 (gd_in ((a4 + a7) + 4) 2880 (LX9_side_155 po sx sy sw PX PY PZ k a1 a3 a4 a5 a6 (a7 + (-1)) mSI (upd mSR ((a4 + a7) + 4).toNatClampNeg (mSR (a4 + a7).toNatClampNeg))))))
def JX9_side_143 (po : Int32) (sx : Int32) (sy : Int32) (sw : Int32) (PX : Nat → Int32) (PY : Nat → Int32) (PZ : Nat → Int32)  (a1 : Int32) (a3 : Int32) (a4 : Int32) (a5 : Int32) (a6 : Int32) (mSI : Nat → Int32) (mSR : Nat → Int32) : Option ((Nat → Int32) × (Nat → Int32)) :=
  (gd_in a1 8 (LX9_side_155 po sx sy sw PX PY PZ FU a1 a3 a4 a5 a6 ((4 * (mSI a1.toNatClampNeg)) - 1) mSI mSR))
def JX9_side_76 (po : Int32) (sx : Int32) (sy : Int32) (sw : Int32) (PX : Nat → Int32) (PY : Nat → Int32) (PZ : Nat → Int32)  (a1 : Int32) (a3 : Int32) (a4 : Int32) (a5 : Int32) (mSI : Nat → Int32) (mSR : Nat → Int32) : Option ((Nat → Int32) × (Nat → Int32)) :=
  (gd_in a1 8 (if mSI a1.toNatClampNeg ≤ a5 then (JX9_side_143 po sx sy sw PX PY PZ a1 a3 a4 a5 (a4 + (4 * a5)) mSI mSR) else (gd_in (a4 + (4 * a5)) 2880 (if mSR (a4 + (4 * a5)).toNatClampNeg = sx then (gd_in ((a4 + (4 * a5)) + 1) 2880 (if mSR ((a4 + (4 * a5)) + 1).toNatClampNeg = sy then (gd_in ((a4 + (4 * a5)) + 2) 2880 (if mSR ((a4 + (4 * a5)) + 2).toNatClampNeg = sw then (some (mSI, mSR)) else (JX9_side_143 po sx sy sw PX PY PZ a1 a3 a4 a5 (a4 + (4 * a5)) mSI mSR))) else (JX9_side_143 po sx sy sw PX PY PZ a1 a3 a4 a5 (a4 + (4 * a5)) mSI mSR))) else (JX9_side_143 po sx sy sw PX PY PZ a1 a3 a4 a5 (a4 + (4 * a5)) mSI mSR)))))
def LX9_side_45 (po : Int32) (sx : Int32) (sy : Int32) (sw : Int32) (PX : Nat → Int32) (PY : Nat → Int32) (PZ : Nat → Int32)  : Nat → Int32 → Int32 → Int32 → Int32 → (Nat → Int32) → (Nat → Int32) → Option ((Nat → Int32) × (Nat → Int32))
  | 0, _, _, _, _, _, _ => none
  | k + 1, a1, a3, a4, a5, mSI, mSR =>
  (gd_in a1 8 (if mSI a1.toNatClampNeg ≤ a5 then (JX9_side_76 po sx sy sw PX PY PZ a1 a3 a4 a5 mSI mSR) else (bd (fX9_isLess sx sy sw mSR (a4 + (4 * a5))) (fun v_22 => (if v_22 = 0 then (JX9_side_76 po sx sy sw PX PY PZ a1 a3 a4 a5 mSI mSR) else (LX9_side_45 po sx sy sw PX PY PZ k a1 a3 a4 (a5 + 1) mSI mSR))))))
def LX9_side_9 (po : Int32) (sx : Int32) (sy : Int32) (sw : Int32) (PX : Nat → Int32) (PY : Nat → Int32) (PZ : Nat → Int32)  : Nat → Int32 → Int32 → Int32 → (Nat → Int32) → (Nat → Int32) → Option ((Nat → Int32) × (Nat → Int32))
  | 0, _, _, _, _, _ => none
  | k + 1, a1, a3, a4, mSI, mSR =>
  (if po ≤ a4 then (LX9_side_45 po sx sy sw PX PY PZ FU a1 a3 (360 * a1) 0 mSI mSR) else (bd (fX9_along sx sy sw PX PY PZ a4) (fun v_25 => (if v_25 ≤ a3 then (LX9_side_9 po sx sy sw PX PY PZ k a1 a3 (a4 + 1) mSI mSR) else (some (mSI, mSR))))))
def fX9_side (po : Int32) (sx : Int32) (sy : Int32) (sw : Int32) (SI : Nat → Int32) (SR : Nat → Int32) (PX : Nat → Int32) (PY : Nat → Int32) (PZ : Nat → Int32) (p1 : Int32) (p2 : Int32) : Option ((Nat → Int32) × (Nat → Int32)) :=
  (bd (fX9_along sx sy sw PX PY PZ p2) (fun v_1 => (LX9_side_9 po sx sy sw PX PY PZ FU p1 v_1 0 SI SR)))
abbrev rX9_side : Room := { frames := 1, cells := 0, slots := 0, locals := 21 }
set_option maxHeartbeats 40000000 in
set_option maxRecDepth 100000 in
theorem kX9_side (l : Launch) (G : GT) (h0 qDR qLA qLE qCE qFI qCO qCR qSI qSR qMO qBO qPX qPY qPZ qSX : Nat) (sz : Nat) (dr : Int32) (bo : Int32) (po : Int32) (sx : Int32) (sy : Int32) (sw : Int32) (tx : Int32) (ty : Int32) (tz : Int32) (DR : Nat → Int32) (LA : Nat → Int32) (LE : Nat → Int32) (CE : Nat → Int64) (FI : Nat → Int32) (CO : Nat → Int32) (CR : Nat → Int32) (SI : Nat → Int32) (SR : Nat → Int32) (MO : Nat → Int32) (BO : Nat → Int32) (PX : Nat → Int32) (PY : Nat → Int32) (PZ : Nat → Int32) (SX : Nat → Int32) (p1 : Int32) (p2 : Int32) (res : (Nat → Int32) × (Nat → Int32)) (hF : fX9_side po sx sy sw SI SR PX PY PZ p1 p2 = some res) : Met l yX9_side wsX9_side rX9_side (va_Pc [.ref h0, .int p1, .int p2] (pW G sz (wMod G h0 qDR qLA qLE qCE qFI qCO qCR qSI qSR qMO qBO qPX qPY qPZ qSX dr bo po sx sy sw tx ty tz DR LA LE CE FI CO CR SI SR MO BO PX PY PZ SX))) (va_Qv (fun (u : (Nat → Int32) × (Nat → Int32)) => u = res) (fun u t => qW G (va_A (wMod G h0 qDR qLA qLE qCE qFI qCO qCR qSI qSR qMO qBO qPX qPY qPZ qSX dr bo po sx sy sw tx ty tz DR LA LE CE FI CO CR SI SR MO BO PX PY PZ SX) sz) (wMod G h0 qDR qLA qLE qCE qFI qCO qCR qSI qSR qMO qBO qPX qPY qPZ qSX dr bo po sx sy sw tx ty tz DR LA LE CE FI CO CR u.1 u.2 MO BO PX PY PZ SX) t) (va_A (wMod G h0 qDR qLA qLE qCE qFI qCO qCR qSI qSR qMO qBO qPX qPY qPZ qSX dr bo po sx sy sw tx ty tz DR LA LE CE FI CO CR SI SR MO BO PX PY PZ SX) sz)) 0 0 (va_A (wMod G h0 qDR qLA qLE qCE qFI qCO qCR qSI qSR qMO qBO qPX qPY qPZ qSX dr bo po sx sy sw tx ty tz DR LA LE CE FI CO CR SI SR MO BO PX PY PZ SX) sz) := by
  refine Met.ofW (cc := cX9_side) (maxL := 8) (ret := none) (by decide) rfl ?_
  intro p e s m args below meth c s₁ B hml hv
  obtain ⟨rfl, hsz, hP, hK, hD0⟩ := hv
  have hx := B.exec
  have hb := B.bytes
  have hr := B.returns
  have hts := atoms_spec (ws := wsX9_side) B.pre
  have hown : s.vm.findClass RX9 = some m.cls := findClass_of_methodNamed B.named
  have hlocks := B.notSynchronized
  subst hsz
  have hD := hD0.self (sz := s.heap.size)
  generalize hAe : va_A (wMod G h0 qDR qLA qLE qCE qFI qCO qCR qSI qSR qMO qBO qPX qPY qPZ qSX dr bo po sx sy sw tx ty tz DR LA LE CE FI CO CR SI SR MO BO PX PY PZ SX) s.heap.size = A at hD ⊢
  have hA : ∀ q : Nat, s.heap.size ≤ q → A q := fun q h => by rw [← hAe]; exact Or.inr h
  have hS : va_S A s.heap s.heap [] := va_S.rf
  have hin9 : ∀ w ∈ u_ws RX9 TX9 24, w ∈ wsX9_side := by decide +kernel
  have hfl74 := hts (.fieldLink RX9 74 "SwellBodiesModel" "points" "I") (by decide +kernel)
  have hfl32 := hts (.fieldLink RX9 32 "SwellBodiesModel" "sides" "[I") (by decide +kernel)
  have hfl35 := hts (.fieldLink RX9 35 "SwellBodiesModel" "sideRow" "[I") (by decide +kernel)
  have hfl85 := hts (.fieldLink RX9 85 "SwellBodiesModel" "sx" "I") (by decide +kernel)
  have hfl88 := hts (.fieldLink RX9 88 "SwellBodiesModel" "sy" "I") (by decide +kernel)
  have hfl91 := hts (.fieldLink RX9 91 "SwellBodiesModel" "sz" "I") (by decide +kernel)
  have hl := lv_entry ([.ref h0, .int p1, .int p2]) (n := 8) (Nat.le_of_ble_eq_true rfl)
  rw [lg_entry_eq]
  generalize (lg_sl ([.ref h0, .int p1, .int p2]) ++ List.replicate (8 - (lg_sl ([.ref h0, .int p1, .int p2])).length) Slot.unset).toArray = ls at hl ⊢
  have hl : lv_has ls 8 [(0, .ref h0), (1, .int p1), (2, .int p2)] := hl
  have hL155 : ∀ (k : Nat), ∀ (a1 : Int32) (a3 : Int32) (a4 : Int32) (a5 : Int32) (a6 : Int32) (a7 : Int32) (mSI : Nat → Int32) (mSR : Nat → Int32) (H : Heap) (locs : List Loc) (ls : Array Slot), LX9_side_155 po sx sy sw PX PY PZ k a1 a3 a4 a5 a6 a7 mSI mSR = some res → va_P (gD G) vwCl (wMod G h0 qDR qLA qLE qCE qFI qCO qCR qSI qSR qMO qBO qPX qPY qPZ qSX dr bo po sx sy sw tx ty tz DR LA LE CE FI CO CR mSI mSR MO BO PX PY PZ SX) H → va_D A (wMod G h0 qDR qLA qLE qCE qFI qCO qCR qSI qSR qMO qBO qPX qPY qPZ qSX dr bo po sx sy sw tx ty tz DR LA LE CE FI CO CR mSI mSR MO BO PX PY PZ SX) → va_S A s.heap H locs → lv_has ls 8 [(0, .ref h0), (1, .int a1), (3, .int a3), (4, .int a4), (5, .int a5), (6, .int a6), (7, .int a7)] → W p l e (headSpec wsX9_side rX9_side).room s m ([.ref h0, .int p1, .int p2] : List Value).toArray below meth c H locs 0 0 (MQ below (va_Qv (fun (u : (Nat → Int32) × (Nat → Int32)) => u = res) (fun u t => qW G A (wMod G h0 qDR qLA qLE qCE qFI qCO qCR qSI qSR qMO qBO qPX qPY qPZ qSX dr bo po sx sy sw tx ty tz DR LA LE CE FI CO CR u.1 u.2 MO BO PX PY PZ SX) t) A) ([.ref h0, .int p1, .int p2] : List Value).toArray s 0 0 A) (F0 m 155 ls []) := by
    intro k
    induction k with
    | zero =>
      intro a1 a3 a4 a5 a6 a7 mSI mSR H locs ls hF hP hD hS hl
      rw [LX9_side_155] at hF
      cases hF
    | succ k ih =>
      intro a1 a3 a4 a5 a6 a7 mSI mSR H locs ls hF hP hD hS hl
      rw [LX9_side_155] at hF
      refine lv_iload hx hb dX9_side_155 (lv_at hl 6 rfl) ?_
      refine lv_iconst (v := 4) hx hb dX9_side_157 (by decide) ?_
      refine lv_iload hx hb dX9_side_158 (lv_at hl 4 rfl) ?_
      refine lv_imul hx hb dX9_side_160 ?_
      refine lv_icmp_lt (tgt := 192) hx hb dX9_side_161 (by decide) (fun c_8 => ?_) (fun c_8 => ?_)
      · replace hF := it_p c_8 hF
        refine lv_aload_n hx hb dX9_side_192 rfl (lv_at hl 0 rfl) ?_
        refine va_get (ci := 9) (v := .ref qSR) (C := RX9) (T := TX9) (N := 24) hx hb hts hin9 hown hK hP 0 rfl rfl 10 (by decide) hfl35 (fun _ h9 => h9) rfl dX9_side_193 ?_
        refine lv_iload hx hb dX9_side_196 (lv_at hl 5 rfl) ?_
        refine lv_aload_n hx hb dX9_side_198 rfl (lv_at hl 0 rfl) ?_
        refine va_get (ci := 9) (v := .int sx) (C := RX9) (T := TX9) (N := 24) hx hb hts hin9 hown hK hP 0 rfl rfl 17 (by decide) hfl85 (fun _ h9 => h9) rfl dX9_side_199 ?_
        obtain ⟨hi_9, hF⟩ := gd_in_s hF
        refine va_iast hx hb hK hP hD hS 9 0 rfl rfl hi_9 dX9_side_202 (fun H locs hP hD hS => ?_)
        have hP : va_P (gD G) vwCl (wMod G h0 qDR qLA qLE qCE qFI qCO qCR qSI qSR qMO qBO qPX qPY qPZ qSX dr bo po sx sy sw tx ty tz DR LA LE CE FI CO CR mSI (upd mSR a6.toNatClampNeg sx) MO BO PX PY PZ SX) H := hP
        have hD : va_D A (wMod G h0 qDR qLA qLE qCE qFI qCO qCR qSI qSR qMO qBO qPX qPY qPZ qSX dr bo po sx sy sw tx ty tz DR LA LE CE FI CO CR mSI (upd mSR a6.toNatClampNeg sx) MO BO PX PY PZ SX) := hD
        refine lv_aload_n hx hb dX9_side_203 rfl (lv_at hl 0 rfl) ?_
        refine va_get (ci := 9) (v := .ref qSR) (C := RX9) (T := TX9) (N := 24) hx hb hts hin9 hown hK hP 0 rfl rfl 10 (by decide) hfl35 (fun _ h9 => h9) rfl dX9_side_204 ?_
        refine lv_iload hx hb dX9_side_207 (lv_at hl 5 rfl) ?_
        refine lv_iconst (v := 1) hx hb dX9_side_209 (by decide) ?_
        refine lv_iadd hx hb dX9_side_210 ?_
        refine lv_aload_n hx hb dX9_side_211 rfl (lv_at hl 0 rfl) ?_
        refine va_get (ci := 9) (v := .int sy) (C := RX9) (T := TX9) (N := 24) hx hb hts hin9 hown hK hP 0 rfl rfl 18 (by decide) hfl88 (fun _ h9 => h9) rfl dX9_side_212 ?_
        obtain ⟨hi_10, hF⟩ := gd_in_s hF
        refine va_iast hx hb hK hP hD hS 9 0 rfl rfl hi_10 dX9_side_215 (fun H locs hP hD hS => ?_)
        have hP : va_P (gD G) vwCl (wMod G h0 qDR qLA qLE qCE qFI qCO qCR qSI qSR qMO qBO qPX qPY qPZ qSX dr bo po sx sy sw tx ty tz DR LA LE CE FI CO CR mSI (upd (upd mSR a6.toNatClampNeg sx) (a6 + 1).toNatClampNeg sy) MO BO PX PY PZ SX) H := hP
        have hD : va_D A (wMod G h0 qDR qLA qLE qCE qFI qCO qCR qSI qSR qMO qBO qPX qPY qPZ qSX dr bo po sx sy sw tx ty tz DR LA LE CE FI CO CR mSI (upd (upd mSR a6.toNatClampNeg sx) (a6 + 1).toNatClampNeg sy) MO BO PX PY PZ SX) := hD
        refine lv_aload_n hx hb dX9_side_216 rfl (lv_at hl 0 rfl) ?_
        refine va_get (ci := 9) (v := .ref qSR) (C := RX9) (T := TX9) (N := 24) hx hb hts hin9 hown hK hP 0 rfl rfl 10 (by decide) hfl35 (fun _ h9 => h9) rfl dX9_side_217 ?_
        refine lv_iload hx hb dX9_side_220 (lv_at hl 5 rfl) ?_
        refine lv_iconst (v := 2) hx hb dX9_side_222 (by decide) ?_
        refine lv_iadd hx hb dX9_side_223 ?_
        refine lv_aload_n hx hb dX9_side_224 rfl (lv_at hl 0 rfl) ?_
        refine va_get (ci := 9) (v := .int sw) (C := RX9) (T := TX9) (N := 24) hx hb hts hin9 hown hK hP 0 rfl rfl 19 (by decide) hfl91 (fun _ h9 => h9) rfl dX9_side_225 ?_
        obtain ⟨hi_11, hF⟩ := gd_in_s hF
        refine va_iast hx hb hK hP hD hS 9 0 rfl rfl hi_11 dX9_side_228 (fun H locs hP hD hS => ?_)
        have hP : va_P (gD G) vwCl (wMod G h0 qDR qLA qLE qCE qFI qCO qCR qSI qSR qMO qBO qPX qPY qPZ qSX dr bo po sx sy sw tx ty tz DR LA LE CE FI CO CR mSI (upd (upd (upd mSR a6.toNatClampNeg sx) (a6 + 1).toNatClampNeg sy) (a6 + 2).toNatClampNeg sw) MO BO PX PY PZ SX) H := hP
        have hD : va_D A (wMod G h0 qDR qLA qLE qCE qFI qCO qCR qSI qSR qMO qBO qPX qPY qPZ qSX dr bo po sx sy sw tx ty tz DR LA LE CE FI CO CR mSI (upd (upd (upd mSR a6.toNatClampNeg sx) (a6 + 1).toNatClampNeg sy) (a6 + 2).toNatClampNeg sw) MO BO PX PY PZ SX) := hD
        refine lv_aload_n hx hb dX9_side_229 rfl (lv_at hl 0 rfl) ?_
        refine va_get (ci := 9) (v := .ref qSR) (C := RX9) (T := TX9) (N := 24) hx hb hts hin9 hown hK hP 0 rfl rfl 10 (by decide) hfl35 (fun _ h9 => h9) rfl dX9_side_230 ?_
        refine lv_iload hx hb dX9_side_233 (lv_at hl 5 rfl) ?_
        refine lv_iconst (v := 3) hx hb dX9_side_235 (by decide) ?_
        refine lv_iadd hx hb dX9_side_236 ?_
        refine lv_iload_n hx hb dX9_side_237 rfl (lv_at hl 2 rfl) ?_
        obtain ⟨hi_12, hF⟩ := gd_in_s hF
        refine va_iast hx hb hK hP hD hS 9 0 rfl rfl hi_12 dX9_side_238 (fun H locs hP hD hS => ?_)
        have hP : va_P (gD G) vwCl (wMod G h0 qDR qLA qLE qCE qFI qCO qCR qSI qSR qMO qBO qPX qPY qPZ qSX dr bo po sx sy sw tx ty tz DR LA LE CE FI CO CR mSI (upd (upd (upd (upd mSR a6.toNatClampNeg sx) (a6 + 1).toNatClampNeg sy) (a6 + 2).toNatClampNeg sw) (a6 + 3).toNatClampNeg a3) MO BO PX PY PZ SX) H := hP
        have hD : va_D A (wMod G h0 qDR qLA qLE qCE qFI qCO qCR qSI qSR qMO qBO qPX qPY qPZ qSX dr bo po sx sy sw tx ty tz DR LA LE CE FI CO CR mSI (upd (upd (upd (upd mSR a6.toNatClampNeg sx) (a6 + 1).toNatClampNeg sy) (a6 + 2).toNatClampNeg sw) (a6 + 3).toNatClampNeg a3) MO BO PX PY PZ SX) := hD
        refine lv_aload_n hx hb dX9_side_239 rfl (lv_at hl 0 rfl) ?_
        refine va_get (ci := 9) (v := .ref qSI) (C := RX9) (T := TX9) (N := 24) hx hb hts hin9 hown hK hP 0 rfl rfl 9 (by decide) hfl32 (fun _ h9 => h9) rfl dX9_side_240 ?_
        refine lv_iload_n hx hb dX9_side_243 rfl (lv_at hl 1 rfl) ?_
        refine lv_dup2_11 hx hb dX9_side_244 rfl rfl ?_
        obtain ⟨hi_13, hF⟩ := gd_in_s hF
        refine va_iald hx hb hK hP 8 0 rfl rfl hi_13 dX9_side_245 ?_
        refine lv_iconst (v := 1) hx hb dX9_side_246 (by decide) ?_
        refine lv_iadd hx hb dX9_side_247 ?_
        refine va_iast hx hb hK hP hD hS 8 0 rfl rfl hi_13 dX9_side_248 (fun H locs hP hD hS => ?_)
        have hP : va_P (gD G) vwCl (wMod G h0 qDR qLA qLE qCE qFI qCO qCR qSI qSR qMO qBO qPX qPY qPZ qSX dr bo po sx sy sw tx ty tz DR LA LE CE FI CO CR (upd mSI a1.toNatClampNeg ((mSI a1.toNatClampNeg) + 1)) (upd (upd (upd (upd mSR a6.toNatClampNeg sx) (a6 + 1).toNatClampNeg sy) (a6 + 2).toNatClampNeg sw) (a6 + 3).toNatClampNeg a3) MO BO PX PY PZ SX) H := hP
        have hD : va_D A (wMod G h0 qDR qLA qLE qCE qFI qCO qCR qSI qSR qMO qBO qPX qPY qPZ qSX dr bo po sx sy sw tx ty tz DR LA LE CE FI CO CR (upd mSI a1.toNatClampNeg ((mSI a1.toNatClampNeg) + 1)) (upd (upd (upd (upd mSR a6.toNatClampNeg sx) (a6 + 1).toNatClampNeg sy) (a6 + 2).toNatClampNeg sw) (a6 + 3).toNatClampNeg a3) MO BO PX PY PZ SX) := hD
        exact W.vret hx hb hr (fun t ht hW => ⟨⟨(upd mSI a1.toNatClampNeg ((mSI a1.toNatClampNeg) + 1), upd (upd (upd (upd mSR a6.toNatClampNeg sx) (a6 + 1).toNatClampNeg sy) (a6 + 2).toNatClampNeg sw) (a6 + 3).toNatClampNeg a3), rfl, so_e hF, qW_mk ht hP hK hW hD⟩, hS.F ht⟩) hS.2.2 dX9_side_249
      · replace hF := it_n c_8 hF
        refine lv_aload_n hx hb dX9_side_164 rfl (lv_at hl 0 rfl) ?_
        refine va_get (ci := 9) (v := .ref qSR) (C := RX9) (T := TX9) (N := 24) hx hb hts hin9 hown hK hP 0 rfl rfl 10 (by decide) hfl35 (fun _ h9 => h9) rfl dX9_side_165 ?_
        refine lv_iload hx hb dX9_side_168 (lv_at hl 3 rfl) ?_
        refine lv_iload hx hb dX9_side_170 (lv_at hl 6 rfl) ?_
        refine lv_iadd hx hb dX9_side_172 ?_
        refine lv_iconst (v := 4) hx hb dX9_side_173 (by decide) ?_
        refine lv_iadd hx hb dX9_side_174 ?_
        refine lv_aload_n hx hb dX9_side_175 rfl (lv_at hl 0 rfl) ?_
        refine va_get (ci := 9) (v := .ref qSR) (C := RX9) (T := TX9) (N := 24) hx hb hts hin9 hown hK hP 0 rfl rfl 10 (by decide) hfl35 (fun _ h9 => h9) rfl dX9_side_176 ?_
        refine lv_iload hx hb dX9_side_179 (lv_at hl 3 rfl) ?_
        refine lv_iload hx hb dX9_side_181 (lv_at hl 6 rfl) ?_
        refine lv_iadd hx hb dX9_side_183 ?_
        obtain ⟨hi_14, hF⟩ := gd_in_s hF
        refine va_iald hx hb hK hP 9 0 rfl rfl hi_14 dX9_side_184 ?_
        obtain ⟨hi_15, hF⟩ := gd_in_s hF
        refine va_iast hx hb hK hP hD hS 9 0 rfl rfl hi_15 dX9_side_185 (fun H locs hP hD hS => ?_)
        have hP : va_P (gD G) vwCl (wMod G h0 qDR qLA qLE qCE qFI qCO qCR qSI qSR qMO qBO qPX qPY qPZ qSX dr bo po sx sy sw tx ty tz DR LA LE CE FI CO CR mSI (upd mSR ((a4 + a7) + 4).toNatClampNeg (mSR (a4 + a7).toNatClampNeg)) MO BO PX PY PZ SX) H := hP
        have hD : va_D A (wMod G h0 qDR qLA qLE qCE qFI qCO qCR qSI qSR qMO qBO qPX qPY qPZ qSX dr bo po sx sy sw tx ty tz DR LA LE CE FI CO CR mSI (upd mSR ((a4 + a7) + 4).toNatClampNeg (mSR (a4 + a7).toNatClampNeg)) MO BO PX PY PZ SX) := hD
        refine lv_iinc (v := a7 + (-1)) (lv' := [(7, .int (a7 + (-1))), (0, .ref h0), (1, .int a1), (3, .int a3), (4, .int a4), (5, .int a5), (6, .int a6)]) hx hb dX9_side_186 hl (k := 6) rfl rfl (by decide) rfl (fun ls hl => ?_)
        refine lv_goto (tgt := 155) hx hb dX9_side_189 (by decide) ?_
        exact ih a1 a3 a4 a5 a6 (a7 + (-1)) mSI (upd mSR ((a4 + a7) + 4).toNatClampNeg (mSR (a4 + a7).toNatClampNeg)) _ _ _ hF hP hD hS (lv_sub hl [1, 2, 3, 4, 5, 6, 0] rfl)
  have hJ143 : ∀ (a1 : Int32) (a3 : Int32) (a4 : Int32) (a5 : Int32) (a6 : Int32) (mSI : Nat → Int32) (mSR : Nat → Int32) (H : Heap) (locs : List Loc) (ls : Array Slot), JX9_side_143 po sx sy sw PX PY PZ a1 a3 a4 a5 a6 mSI mSR = some res → va_P (gD G) vwCl (wMod G h0 qDR qLA qLE qCE qFI qCO qCR qSI qSR qMO qBO qPX qPY qPZ qSX dr bo po sx sy sw tx ty tz DR LA LE CE FI CO CR mSI mSR MO BO PX PY PZ SX) H → va_D A (wMod G h0 qDR qLA qLE qCE qFI qCO qCR qSI qSR qMO qBO qPX qPY qPZ qSX dr bo po sx sy sw tx ty tz DR LA LE CE FI CO CR mSI mSR MO BO PX PY PZ SX) → va_S A s.heap H locs → lv_has ls 8 [(0, .ref h0), (1, .int a1), (3, .int a3), (4, .int a4), (5, .int a5), (6, .int a6)] → W p l e (headSpec wsX9_side rX9_side).room s m ([.ref h0, .int p1, .int p2] : List Value).toArray below meth c H locs 0 0 (MQ below (va_Qv (fun (u : (Nat → Int32) × (Nat → Int32)) => u = res) (fun u t => qW G A (wMod G h0 qDR qLA qLE qCE qFI qCO qCR qSI qSR qMO qBO qPX qPY qPZ qSX dr bo po sx sy sw tx ty tz DR LA LE CE FI CO CR u.1 u.2 MO BO PX PY PZ SX) t) A) ([.ref h0, .int p1, .int p2] : List Value).toArray s 0 0 A) (F0 m 143 ls []) := by
    intro a1 a3 a4 a5 a6 mSI mSR H locs ls hF hP hD hS hl
    unfold JX9_side_143 at hF
    refine lv_iconst (v := 4) hx hb dX9_side_143 (by decide) ?_
    refine lv_aload_n hx hb dX9_side_144 rfl (lv_at hl 0 rfl) ?_
    refine va_get (ci := 9) (v := .ref qSI) (C := RX9) (T := TX9) (N := 24) hx hb hts hin9 hown hK hP 0 rfl rfl 9 (by decide) hfl32 (fun _ h9 => h9) rfl dX9_side_145 ?_
    refine lv_iload_n hx hb dX9_side_148 rfl (lv_at hl 1 rfl) ?_
    obtain ⟨hi_7, hF⟩ := gd_in_s hF
    refine va_iald hx hb hK hP 8 0 rfl rfl hi_7 dX9_side_149 ?_
    refine lv_imul hx hb dX9_side_150 ?_
    refine lv_iconst (v := 1) hx hb dX9_side_151 (by decide) ?_
    refine lv_isub hx hb dX9_side_152 ?_
    refine lv_istore (lv' := [(7, .int ((4 * (mSI a1.toNatClampNeg)) - 1)), (0, .ref h0), (1, .int a1), (3, .int a3), (4, .int a4), (5, .int a5), (6, .int a6)]) hx hb dX9_side_153 hl (by decide) rfl (fun ls hl => ?_)
    exact hL155 FU a1 a3 a4 a5 a6 ((4 * (mSI a1.toNatClampNeg)) - 1) mSI mSR _ _ _ hF hP hD hS (lv_sub hl [1, 2, 3, 4, 5, 6, 0] rfl)
  have hJ76 : ∀ (a1 : Int32) (a3 : Int32) (a4 : Int32) (a5 : Int32) (mSI : Nat → Int32) (mSR : Nat → Int32) (H : Heap) (locs : List Loc) (ls : Array Slot), JX9_side_76 po sx sy sw PX PY PZ a1 a3 a4 a5 mSI mSR = some res → va_P (gD G) vwCl (wMod G h0 qDR qLA qLE qCE qFI qCO qCR qSI qSR qMO qBO qPX qPY qPZ qSX dr bo po sx sy sw tx ty tz DR LA LE CE FI CO CR mSI mSR MO BO PX PY PZ SX) H → va_D A (wMod G h0 qDR qLA qLE qCE qFI qCO qCR qSI qSR qMO qBO qPX qPY qPZ qSX dr bo po sx sy sw tx ty tz DR LA LE CE FI CO CR mSI mSR MO BO PX PY PZ SX) → va_S A s.heap H locs → lv_has ls 8 [(0, .ref h0), (1, .int a1), (3, .int a3), (4, .int a4), (5, .int a5)] → W p l e (headSpec wsX9_side rX9_side).room s m ([.ref h0, .int p1, .int p2] : List Value).toArray below meth c H locs 0 0 (MQ below (va_Qv (fun (u : (Nat → Int32) × (Nat → Int32)) => u = res) (fun u t => qW G A (wMod G h0 qDR qLA qLE qCE qFI qCO qCR qSI qSR qMO qBO qPX qPY qPZ qSX dr bo po sx sy sw tx ty tz DR LA LE CE FI CO CR u.1 u.2 MO BO PX PY PZ SX) t) A) ([.ref h0, .int p1, .int p2] : List Value).toArray s 0 0 A) (F0 m 76 ls []) := by
    intro a1 a3 a4 a5 mSI mSR H locs ls hF hP hD hS hl
    unfold JX9_side_76 at hF
    refine lv_iload hx hb dX9_side_76 (lv_at hl 3 rfl) ?_
    refine lv_iconst (v := 4) hx hb dX9_side_78 (by decide) ?_
    refine lv_iload hx hb dX9_side_79 (lv_at hl 4 rfl) ?_
    refine lv_imul hx hb dX9_side_81 ?_
    refine lv_iadd hx hb dX9_side_82 ?_
    refine lv_istore (lv' := [(6, .int (a4 + (4 * a5))), (0, .ref h0), (1, .int a1), (3, .int a3), (4, .int a4), (5, .int a5)]) hx hb dX9_side_83 hl (by decide) rfl (fun ls hl => ?_)
    refine lv_iload hx hb dX9_side_85 (lv_at hl 5 rfl) ?_
    refine lv_aload_n hx hb dX9_side_87 rfl (lv_at hl 1 rfl) ?_
    refine va_get (ci := 9) (v := .ref qSI) (C := RX9) (T := TX9) (N := 24) hx hb hts hin9 hown hK hP 0 rfl rfl 9 (by decide) hfl32 (fun _ h9 => h9) rfl dX9_side_88 ?_
    refine lv_iload_n hx hb dX9_side_91 rfl (lv_at hl 2 rfl) ?_
    obtain ⟨hi_5, hF⟩ := gd_in_s hF
    refine va_iald hx hb hK hP 8 0 rfl rfl hi_5 dX9_side_92 ?_
    refine lv_icmp_ge (tgt := 143) hx hb dX9_side_93 (by decide) (fun c_6 => ?_) (fun c_6 => ?_)
    · replace hF := it_p c_6 hF
      exact hJ143 a1 a3 a4 a5 (a4 + (4 * a5)) mSI mSR _ _ _ hF hP hD hS (lv_sub hl [1, 2, 3, 4, 5, 0] rfl)
    · replace hF := it_n c_6 hF
      refine lv_aload_n hx hb dX9_side_96 rfl (lv_at hl 1 rfl) ?_
      refine va_get (ci := 9) (v := .ref qSR) (C := RX9) (T := TX9) (N := 24) hx hb hts hin9 hown hK hP 0 rfl rfl 10 (by decide) hfl35 (fun _ h9 => h9) rfl dX9_side_97 ?_
      refine lv_iload hx hb dX9_side_100 (lv_at hl 0 rfl) ?_
      obtain ⟨hi_16, hF⟩ := gd_in_s hF
      refine va_iald hx hb hK hP 9 0 rfl rfl hi_16 dX9_side_102 ?_
      refine lv_aload_n hx hb dX9_side_103 rfl (lv_at hl 1 rfl) ?_
      refine va_get (ci := 9) (v := .int sx) (C := RX9) (T := TX9) (N := 24) hx hb hts hin9 hown hK hP 0 rfl rfl 17 (by decide) hfl85 (fun _ h9 => h9) rfl dX9_side_104 ?_
      refine lv_icmp_ne (tgt := 143) hx hb dX9_side_107 (by decide) (fun c_17 => ?_) (fun c_17 => ?_)
      · replace hF := it_n c_17 hF
        exact hJ143 a1 a3 a4 a5 (a4 + (4 * a5)) mSI mSR _ _ _ hF hP hD hS (lv_sub hl [1, 2, 3, 4, 5, 0] rfl)
      · replace hF := it_p c_17 hF
        refine lv_aload_n hx hb dX9_side_110 rfl (lv_at hl 1 rfl) ?_
        refine va_get (ci := 9) (v := .ref qSR) (C := RX9) (T := TX9) (N := 24) hx hb hts hin9 hown hK hP 0 rfl rfl 10 (by decide) hfl35 (fun _ h9 => h9) rfl dX9_side_111 ?_
        refine lv_iload hx hb dX9_side_114 (lv_at hl 0 rfl) ?_
        refine lv_iconst (v := 1) hx hb dX9_side_116 (by decide) ?_
        refine lv_iadd hx hb dX9_side_117 ?_
        obtain ⟨hi_18, hF⟩ := gd_in_s hF
        refine va_iald hx hb hK hP 9 0 rfl rfl hi_18 dX9_side_118 ?_
        refine lv_aload_n hx hb dX9_side_119 rfl (lv_at hl 1 rfl) ?_
        refine va_get (ci := 9) (v := .int sy) (C := RX9) (T := TX9) (N := 24) hx hb hts hin9 hown hK hP 0 rfl rfl 18 (by decide) hfl88 (fun _ h9 => h9) rfl dX9_side_120 ?_
        refine lv_icmp_ne (tgt := 143) hx hb dX9_side_123 (by decide) (fun c_19 => ?_) (fun c_19 => ?_)
        · replace hF := it_n c_19 hF
          exact hJ143 a1 a3 a4 a5 (a4 + (4 * a5)) mSI mSR _ _ _ hF hP hD hS (lv_sub hl [1, 2, 3, 4, 5, 0] rfl)
        · replace hF := it_p c_19 hF
          refine lv_aload_n hx hb dX9_side_126 rfl (lv_at hl 1 rfl) ?_
          refine va_get (ci := 9) (v := .ref qSR) (C := RX9) (T := TX9) (N := 24) hx hb hts hin9 hown hK hP 0 rfl rfl 10 (by decide) hfl35 (fun _ h9 => h9) rfl dX9_side_127 ?_
          refine lv_iload hx hb dX9_side_130 (lv_at hl 0 rfl) ?_
          refine lv_iconst (v := 2) hx hb dX9_side_132 (by decide) ?_
          refine lv_iadd hx hb dX9_side_133 ?_
          obtain ⟨hi_20, hF⟩ := gd_in_s hF
          refine va_iald hx hb hK hP 9 0 rfl rfl hi_20 dX9_side_134 ?_
          refine lv_aload_n hx hb dX9_side_135 rfl (lv_at hl 1 rfl) ?_
          refine va_get (ci := 9) (v := .int sw) (C := RX9) (T := TX9) (N := 24) hx hb hts hin9 hown hK hP 0 rfl rfl 19 (by decide) hfl91 (fun _ h9 => h9) rfl dX9_side_136 ?_
          refine lv_icmp_ne (tgt := 143) hx hb dX9_side_139 (by decide) (fun c_21 => ?_) (fun c_21 => ?_)
          · replace hF := it_n c_21 hF
            exact hJ143 a1 a3 a4 a5 (a4 + (4 * a5)) mSI mSR _ _ _ hF hP hD hS (lv_sub hl [1, 2, 3, 4, 5, 0] rfl)
          · replace hF := it_p c_21 hF
            exact W.vret hx hb hr (fun t ht hW => ⟨⟨(mSI, mSR), rfl, so_e hF, qW_mk ht hP hK hW hD⟩, hS.F ht⟩) hS.2.2 dX9_side_142
  have hL45 : ∀ (k : Nat), ∀ (a1 : Int32) (a3 : Int32) (a4 : Int32) (a5 : Int32) (mSI : Nat → Int32) (mSR : Nat → Int32) (H : Heap) (locs : List Loc) (ls : Array Slot), LX9_side_45 po sx sy sw PX PY PZ k a1 a3 a4 a5 mSI mSR = some res → va_P (gD G) vwCl (wMod G h0 qDR qLA qLE qCE qFI qCO qCR qSI qSR qMO qBO qPX qPY qPZ qSX dr bo po sx sy sw tx ty tz DR LA LE CE FI CO CR mSI mSR MO BO PX PY PZ SX) H → va_D A (wMod G h0 qDR qLA qLE qCE qFI qCO qCR qSI qSR qMO qBO qPX qPY qPZ qSX dr bo po sx sy sw tx ty tz DR LA LE CE FI CO CR mSI mSR MO BO PX PY PZ SX) → va_S A s.heap H locs → lv_has ls 8 [(0, .ref h0), (1, .int a1), (3, .int a3), (4, .int a4), (5, .int a5)] → W p l e (headSpec wsX9_side rX9_side).room s m ([.ref h0, .int p1, .int p2] : List Value).toArray below meth c H locs 0 0 (MQ below (va_Qv (fun (u : (Nat → Int32) × (Nat → Int32)) => u = res) (fun u t => qW G A (wMod G h0 qDR qLA qLE qCE qFI qCO qCR qSI qSR qMO qBO qPX qPY qPZ qSX dr bo po sx sy sw tx ty tz DR LA LE CE FI CO CR u.1 u.2 MO BO PX PY PZ SX) t) A) ([.ref h0, .int p1, .int p2] : List Value).toArray s 0 0 A) (F0 m 45 ls []) := by
    intro k
    induction k with
    | zero =>
      intro a1 a3 a4 a5 mSI mSR H locs ls hF hP hD hS hl
      rw [LX9_side_45] at hF
      cases hF
    | succ k ih =>
      intro a1 a3 a4 a5 mSI mSR H locs ls hF hP hD hS hl
      rw [LX9_side_45] at hF
      refine lv_iload hx hb dX9_side_45 (lv_at hl 4 rfl) ?_
      refine lv_aload_n hx hb dX9_side_47 rfl (lv_at hl 0 rfl) ?_
      refine va_get (ci := 9) (v := .ref qSI) (C := RX9) (T := TX9) (N := 24) hx hb hts hin9 hown hK hP 0 rfl rfl 9 (by decide) hfl32 (fun _ h9 => h9) rfl dX9_side_48 ?_
      refine lv_iload_n hx hb dX9_side_51 rfl (lv_at hl 1 rfl) ?_
      obtain ⟨hi_3, hF⟩ := gd_in_s hF
      refine va_iald hx hb hK hP 8 0 rfl rfl hi_3 dX9_side_52 ?_
      refine lv_icmp_ge (tgt := 76) hx hb dX9_side_53 (by decide) (fun c_4 => ?_) (fun c_4 => ?_)
      · replace hF := it_p c_4 hF
        exact hJ76 a1 a3 a4 a5 mSI mSR _ _ _ hF hP hD hS (lv_sub hl [0, 1, 2, 3, 4] rfl)
      · replace hF := it_n c_4 hF
        refine lv_aload_n hx hb dX9_side_56 rfl (lv_at hl 0 rfl) ?_
        refine lv_iload hx hb dX9_side_57 (lv_at hl 3 rfl) ?_
        refine lv_iconst (v := 4) hx hb dX9_side_59 (by decide) ?_
        refine lv_iload hx hb dX9_side_60 (lv_at hl 4 rfl) ?_
        refine lv_imul hx hb dX9_side_62 ?_
        refine lv_iadd hx hb dX9_side_63 ?_
        obtain ⟨v_22, hv_22, hF⟩ := bd_s hF
        refine ro_ze (va_runV (As := [.int (a4 + (4 * a5))]) (rest := []) ⟨hx, hb, hml, hown, hts⟩ (kX9_isLess l G h0 qDR qLA qLE qCE qFI qCO qCR qSI qSR qMO qBO qPX qPY qPZ qSX dr bo po sx sy sw tx ty tz DR LA LE CE FI CO CR mSI mSR MO BO PX PY PZ SX (a4 + (4 * a5)) v_22 hv_22) (cwV 1 hts gX9_side_X9_isLess rfl rfl rfl (by decide +kernel) ⟨Nat.le_of_ble_eq_true rfl, Nat.le_of_ble_eq_true rfl⟩) (pvR (q0 := 0) 9 hK (hP.sub (ws' := (wMod G h0 qDR qLA qLE qCE qFI qCO qCR qSI qSR qMO qBO qPX qPY qPZ qSX dr bo po sx sy sw tx ty tz DR LA LE CE FI CO CR mSI mSR MO BO PX PY PZ SX)) [0, 1, 2, 3, 4, 5, 6, 7, 8, 9, 10, 11, 12, 13, 14, 15] rfl) rfl rfl) rfl rfl hl.1 rfl (lv_room (Nat.le_of_ble_eq_true rfl)) dX9_side_64 ⟨Nat.le_of_ble_eq_true rfl, Nat.le_of_ble_eq_true rfl⟩) (fun hb_23 => ?_)
        refine lv_if_eq (tgt := 76) hx hb dX9_side_67 (by decide) (fun c_24 => ?_) (fun c_24 => ?_)
        · replace hF := it_p c_24 hF
          exact hJ76 a1 a3 a4 a5 mSI mSR _ _ _ hF hP hD hS (lv_sub hl [0, 1, 2, 3, 4] rfl)
        · replace hF := it_n c_24 hF
          refine lv_iinc (v := a5 + 1) (lv' := [(5, .int (a5 + 1)), (0, .ref h0), (1, .int a1), (3, .int a3), (4, .int a4)]) hx hb dX9_side_70 hl (k := 4) rfl rfl (by decide) rfl (fun ls hl => ?_)
          refine lv_goto (tgt := 45) hx hb dX9_side_73 (by decide) ?_
          exact ih a1 a3 a4 (a5 + 1) mSI mSR _ _ _ hF hP hD hS (lv_sub hl [1, 2, 3, 4, 0] rfl)
  have hL9 : ∀ (k : Nat), ∀ (a1 : Int32) (a3 : Int32) (a4 : Int32) (mSI : Nat → Int32) (mSR : Nat → Int32) (H : Heap) (locs : List Loc) (ls : Array Slot), LX9_side_9 po sx sy sw PX PY PZ k a1 a3 a4 mSI mSR = some res → va_P (gD G) vwCl (wMod G h0 qDR qLA qLE qCE qFI qCO qCR qSI qSR qMO qBO qPX qPY qPZ qSX dr bo po sx sy sw tx ty tz DR LA LE CE FI CO CR mSI mSR MO BO PX PY PZ SX) H → va_D A (wMod G h0 qDR qLA qLE qCE qFI qCO qCR qSI qSR qMO qBO qPX qPY qPZ qSX dr bo po sx sy sw tx ty tz DR LA LE CE FI CO CR mSI mSR MO BO PX PY PZ SX) → va_S A s.heap H locs → lv_has ls 8 [(0, .ref h0), (1, .int a1), (3, .int a3), (4, .int a4)] → W p l e (headSpec wsX9_side rX9_side).room s m ([.ref h0, .int p1, .int p2] : List Value).toArray below meth c H locs 0 0 (MQ below (va_Qv (fun (u : (Nat → Int32) × (Nat → Int32)) => u = res) (fun u t => qW G A (wMod G h0 qDR qLA qLE qCE qFI qCO qCR qSI qSR qMO qBO qPX qPY qPZ qSX dr bo po sx sy sw tx ty tz DR LA LE CE FI CO CR u.1 u.2 MO BO PX PY PZ SX) t) A) ([.ref h0, .int p1, .int p2] : List Value).toArray s 0 0 A) (F0 m 9 ls []) := by
    intro k
    induction k with
    | zero =>
      intro a1 a3 a4 mSI mSR H locs ls hF hP hD hS hl
      rw [LX9_side_9] at hF
      cases hF
    | succ k ih =>
      intro a1 a3 a4 mSI mSR H locs ls hF hP hD hS hl
      rw [LX9_side_9] at hF
      refine lv_iload hx hb dX9_side_9 (lv_at hl 3 rfl) ?_
      refine lv_aload_n hx hb dX9_side_11 rfl (lv_at hl 0 rfl) ?_
      refine va_get (ci := 9) (v := .int po) (C := RX9) (T := TX9) (N := 24) hx hb hts hin9 hown hK hP 0 rfl rfl 13 (by decide) hfl74 (fun _ h9 => h9) rfl dX9_side_12 ?_
      refine lv_icmp_ge (tgt := 35) hx hb dX9_side_15 (by decide) (fun c_2 => ?_) (fun c_2 => ?_)
      · replace hF := it_p c_2 hF
        refine lv_sipush (v := 360) hx hb dX9_side_35 (by decide) ?_
        refine lv_iload_n hx hb dX9_side_38 rfl (lv_at hl 1 rfl) ?_
        refine lv_imul hx hb dX9_side_39 ?_
        refine lv_istore (lv' := [(4, .int (360 * a1)), (0, .ref h0), (1, .int a1), (3, .int a3)]) hx hb dX9_side_40 hl (by decide) rfl (fun ls hl => ?_)
        refine lv_iconst (v := 0) hx hb dX9_side_42 (by decide) ?_
        refine lv_istore (lv' := [(5, .int 0), (4, .int (360 * a1)), (0, .ref h0), (1, .int a1), (3, .int a3)]) hx hb dX9_side_43 hl (by decide) rfl (fun ls hl => ?_)
        exact hL45 FU a1 a3 (360 * a1) 0 mSI mSR _ _ _ hF hP hD hS (lv_sub hl [2, 3, 4, 1, 0] rfl)
      · replace hF := it_n c_2 hF
        refine lv_aload_n hx hb dX9_side_18 rfl (lv_at hl 0 rfl) ?_
        refine lv_iload hx hb dX9_side_19 (lv_at hl 3 rfl) ?_
        obtain ⟨v_25, hv_25, hF⟩ := bd_s hF
        refine ro_ie (va_runV (As := [.int a4]) (rest := []) ⟨hx, hb, hml, hown, hts⟩ (kX9_along l G h0 qDR qLA qLE qCE qFI qCO qCR qSI qSR qMO qBO qPX qPY qPZ qSX dr bo po sx sy sw tx ty tz DR LA LE CE FI CO CR mSI mSR MO BO PX PY PZ SX a4 v_25 hv_25) (cwV 1 hts gX9_side_X9_along rfl rfl rfl (by decide +kernel) ⟨Nat.le_of_ble_eq_true rfl, Nat.le_of_ble_eq_true rfl⟩) (pvR (q0 := 0) 9 hK (hP.sub (ws' := (wMod G h0 qDR qLA qLE qCE qFI qCO qCR qSI qSR qMO qBO qPX qPY qPZ qSX dr bo po sx sy sw tx ty tz DR LA LE CE FI CO CR mSI mSR MO BO PX PY PZ SX)) [0, 1, 2, 3, 4, 5, 6, 7, 8, 9, 10, 11, 12, 13, 14, 15] rfl) rfl rfl) rfl rfl hl.1 rfl (lv_room (Nat.le_of_ble_eq_true rfl)) dX9_side_21 ⟨Nat.le_of_ble_eq_true rfl, Nat.le_of_ble_eq_true rfl⟩) ?_
        refine lv_iload_n hx hb dX9_side_24 rfl (lv_at hl 2 rfl) ?_
        refine lv_icmp_le (tgt := 29) hx hb dX9_side_25 (by decide) (fun c_26 => ?_) (fun c_26 => ?_)
        · replace hF := it_p c_26 hF
          refine lv_iinc (v := a4 + 1) (lv' := [(4, .int (a4 + 1)), (0, .ref h0), (1, .int a1), (3, .int a3)]) hx hb dX9_side_29 hl (k := 3) rfl rfl (by decide) rfl (fun ls hl => ?_)
          refine lv_goto (tgt := 9) hx hb dX9_side_32 (by decide) ?_
          exact ih a1 a3 (a4 + 1) mSI mSR _ _ _ hF hP hD hS (lv_sub hl [1, 2, 3, 0] rfl)
        · replace hF := it_n c_26 hF
          exact W.vret hx hb hr (fun t ht hW => ⟨⟨(mSI, mSR), rfl, so_e hF, qW_mk ht hP hK hW hD⟩, hS.F ht⟩) hS.2.2 dX9_side_28
  unfold fX9_side at hF
  refine lv_aload_n hx hb dX9_side_0 rfl (lv_at hl 0 rfl) ?_
  refine lv_iload_n hx hb dX9_side_1 rfl (lv_at hl 2 rfl) ?_
  obtain ⟨v_1, hv_1, hF⟩ := bd_s hF
  refine ro_ie (va_runV (As := [.int p2]) (rest := []) ⟨hx, hb, hml, hown, hts⟩ (kX9_along l G h0 qDR qLA qLE qCE qFI qCO qCR qSI qSR qMO qBO qPX qPY qPZ qSX dr bo po sx sy sw tx ty tz DR LA LE CE FI CO CR SI SR MO BO PX PY PZ SX p2 v_1 hv_1) (cwV 1 hts gX9_side_X9_along rfl rfl rfl (by decide +kernel) ⟨Nat.le_of_ble_eq_true rfl, Nat.le_of_ble_eq_true rfl⟩) (pvR (q0 := 0) 9 hK (hP.sub (ws' := (wMod G h0 qDR qLA qLE qCE qFI qCO qCR qSI qSR qMO qBO qPX qPY qPZ qSX dr bo po sx sy sw tx ty tz DR LA LE CE FI CO CR SI SR MO BO PX PY PZ SX)) [0, 1, 2, 3, 4, 5, 6, 7, 8, 9, 10, 11, 12, 13, 14, 15] rfl) rfl rfl) rfl rfl hl.1 rfl (lv_room (Nat.le_of_ble_eq_true rfl)) dX9_side_2 ⟨Nat.le_of_ble_eq_true rfl, Nat.le_of_ble_eq_true rfl⟩) ?_
  refine lv_istore_n (lv' := [(3, .int v_1), (0, .ref h0), (1, .int p1), (2, .int p2)]) hx hb dX9_side_5 rfl hl (by decide) rfl (fun ls hl => ?_)
  refine lv_iconst (v := 0) hx hb dX9_side_6 (by decide) ?_
  refine lv_istore (lv' := [(4, .int 0), (3, .int v_1), (0, .ref h0), (1, .int p1), (2, .int p2)]) hx hb dX9_side_7 hl (by decide) rfl (fun ls hl => ?_)
  exact hL9 FU p1 v_1 0 SI SR _ _ _ hF hP hD hS (lv_sub hl [2, 3, 1, 0] rfl)
