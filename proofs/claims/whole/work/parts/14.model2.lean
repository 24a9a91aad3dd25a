def fX9_bothSides (po : Int32) (sx : Int32) (sy : Int32) (sw : Int32) (SI : Nat → Int32) (SR : Nat → Int32) (PX : Nat → Int32) (PY : Nat → Int32) (PZ : Nat → Int32) (p1 : Int32) (p2 : Int32) : Option (Int32 × Int32 × Int32 × (Nat → Int32) × (Nat → Int32)) :=
  (bd (fX9_side po sx sy sw SI SR PX PY PZ p1 p2) (fun v_1 => (bd (fX9_side po (-sx) (-sy) (-sw) v_1.1 v_1.2 PX PY PZ p1 p2) (fun v_2 => (some (-sx, -sy, -sw, v_2.1, v_2.2))))))
abbrev rX9_bothSides : Room := { frames := 2, cells := 0, slots := 0, locals := 48 }
set_option maxHeartbeats 40000000 in
set_option maxRecDepth 100000 in
theorem kX9_bothSides (l : Launch) (G : GT) (h0 qDR qLA qLE qCE qFI qCO qCR qSI qSR qMO qBO qPX qPY qPZ qSX : Nat) (sz : Nat) (dr : Int32) (bo : Int32) (po : Int32) (sx : Int32) (sy : Int32) (sw : Int32) (tx : Int32) (ty : Int32) (tz : Int32) (DR : Nat → Int32) (LA : Nat → Int32) (LE : Nat → Int32) (CE : Nat → Int64) (FI : Nat → Int32) (CO : Nat → Int32) (CR : Nat → Int32) (SI : Nat → Int32) (SR : Nat → Int32) (MO : Nat → Int32) (BO : Nat → Int32) (PX : Nat → Int32) (PY : Nat → Int32) (PZ : Nat → Int32) (SX : Nat → Int32) (p1 : Int32) (p2 : Int32) (res : Int32 × Int32 × Int32 × (Nat → Int32) × (Nat → Int32)) (hF : fX9_bothSides po sx sy sw SI SR PX PY PZ p1 p2 = some res) : Met l yX9_bothSides wsX9_bothSides rX9_bothSides (va_Pc [.ref h0, .int p1, .int p2] (pW G sz (wMod G h0 qDR qLA qLE qCE qFI qCO qCR qSI qSR qMO qBO qPX qPY qPZ qSX dr bo po sx sy sw tx ty tz DR LA LE CE FI CO CR SI SR MO BO PX PY PZ SX))) (va_Qv (fun (u : Int32 × Int32 × Int32 × (Nat → Int32) × (Nat → Int32)) => u = res) (fun u t => qW G (va_A (wMod G h0 qDR qLA qLE qCE qFI qCO qCR qSI qSR qMO qBO qPX qPY qPZ qSX dr bo po sx sy sw tx ty tz DR LA LE CE FI CO CR SI SR MO BO PX PY PZ SX) sz) (wMod G h0 qDR qLA qLE qCE qFI qCO qCR qSI qSR qMO qBO qPX qPY qPZ qSX dr bo po u.1 u.2.1 u.2.2.1 tx ty tz DR LA LE CE FI CO CR u.2.2.2.1 u.2.2.2.2 MO BO PX PY PZ SX) t) (va_A (wMod G h0 qDR qLA qLE qCE qFI qCO qCR qSI qSR qMO qBO qPX qPY qPZ qSX dr bo po sx sy sw tx ty tz DR LA LE CE FI CO CR SI SR MO BO PX PY PZ SX) sz)) 0 0 (va_A (wMod G h0 qDR qLA qLE qCE qFI qCO qCR qSI qSR qMO qBO qPX qPY qPZ qSX dr bo po sx sy sw tx ty tz DR LA LE CE FI CO CR SI SR MO BO PX PY PZ SX) sz) := by
  refine Met.ofW (cc := cX9_bothSides) (maxL := 3) (ret := none) (by decide) rfl ?_
  intro p e s m args below meth c s₁ B hml hv
  obtain ⟨rfl, hsz, hP, hK, hD0⟩ := hv
  have hx := B.exec
  have hb := B.bytes
  have hr := B.returns
  have hts := atoms_spec (ws := wsX9_bothSides) B.pre
  have hown : s.vm.findClass RX9 = some m.cls := findClass_of_methodNamed B.named
  have hlocks := B.notSynchronized
  subst hsz
  have hD := hD0.self (sz := s.heap.size)
  generalize hAe : va_A (wMod G h0 qDR qLA qLE qCE qFI qCO qCR qSI qSR qMO qBO qPX qPY qPZ qSX dr bo po sx sy sw tx ty tz DR LA LE CE FI CO CR SI SR MO BO PX PY PZ SX) s.heap.size = A at hD ⊢
  have hA : ∀ q : Nat, s.heap.size ≤ q → A q := fun q h => by rw [← hAe]; exact Or.inr h
  have hS : va_S A s.heap s.heap [] := va_S.rf
  have hin9 : ∀ w ∈ u_ws RX9 TX9 24, w ∈ wsX9_bothSides := by decide +kernel
  have hfl85 := hts (.fieldLink RX9 85 "SwellBodiesModel" "sx" "I") (by decide +kernel)
  have hfl88 := hts (.fieldLink RX9 88 "SwellBodiesModel" "sy" "I") (by decide +kernel)
  have hfl91 := hts (.fieldLink RX9 91 "SwellBodiesModel" "sz" "I") (by decide +kernel)
  have hl := lv_entry ([.ref h0, .int p1, .int p2]) (n := 3) (Nat.le_of_ble_eq_true rfl)
  rw [lg_entry_eq]
  generalize (lg_sl ([.ref h0, .int p1, .int p2]) ++ List.replicate (3 - (lg_sl ([.ref h0, .int p1, .int p2])).length) Slot.unset).toArray = ls at hl ⊢
  have hl : lv_has ls 3 [(0, .ref h0), (1, .int p1), (2, .int p2)] := hl
  unfold fX9_bothSides at hF
  refine lv_aload_n hx hb dX9_bothSides_0 rfl (lv_at hl 0 rfl) ?_
  refine lv_iload_n hx hb dX9_bothSides_1 rfl (lv_at hl 1 rfl) ?_
  refine lv_iload_n hx hb dX9_bothSides_2 rfl (lv_at hl 2 rfl) ?_
  obtain ⟨v_1, hv_1, hF⟩ := bd_s hF
  refine rw_ve (wf := (fun (u : (Nat → Int32) × (Nat → Int32)) => (wMod G h0 qDR qLA qLE qCE qFI qCO qCR qSI qSR qMO qBO qPX qPY qPZ qSX dr bo po sx sy sw tx ty tz DR LA LE CE FI CO CR u.1 u.2 MO BO PX PY PZ SX))) (wr := []) (va_runV (As := [.int p1, .int p2]) (rest := []) ⟨hx, hb, hml, hown, hts⟩ (kX9_side l G h0 qDR qLA qLE qCE qFI qCO qCR qSI qSR qMO qBO qPX qPY qPZ qSX s.heap.size dr bo po sx sy sw tx ty tz DR LA LE CE FI CO CR SI SR MO BO PX PY PZ SX p1 p2 v_1 hv_1) (cwV 2 hts gX9_bothSides_X9_side rfl rfl rfl (by decide +kernel) ⟨Nat.le_of_ble_eq_true rfl, Nat.le_of_ble_eq_true rfl⟩) (pvW (q0 := 0) 9 hK (hP.sub (ws' := (wMod G h0 qDR qLA qLE qCE qFI qCO qCR qSI qSR qMO qBO qPX qPY qPZ qSX dr bo po sx sy sw tx ty tz DR LA LE CE FI CO CR SI SR MO BO PX PY PZ SX)) [0, 1, 2, 3, 4, 5, 6, 7, 8, 9, 10, 11, 12, 13, 14, 15] rfl) (hD.sub (ws' := (wMod G h0 qDR qLA qLE qCE qFI qCO qCR qSI qSR qMO qBO qPX qPY qPZ qSX dr bo po sx sy sw tx ty tz DR LA LE CE FI CO CR SI SR MO BO PX PY PZ SX)) [0, 1, 2, 3, 4, 5, 6, 7, 8, 9, 10, 11, 12, 13, 14, 15] (by decide) rfl) rfl rfl) rfl rfl hl.1 rfl (lv_room (Nat.le_of_ble_eq_true rfl)) dX9_bothSides_3 ⟨Nat.le_of_ble_eq_true rfl, Nat.le_of_ble_eq_true rfl⟩) hP hD hS hA [0, 1, 2, 3, 4, 5, 6, 7, 8, 9, 10, 11, 12, 13, 14, 15] [] rfl rfl (by decide) (by decide) (fun H locs  hP hD hS => ?_)
  have hP : va_P (gD G) vwCl (wMod G h0 qDR qLA qLE qCE qFI qCO qCR qSI qSR qMO qBO qPX qPY qPZ qSX dr bo po sx sy sw tx ty tz DR LA LE CE FI CO CR v_1.1 v_1.2 MO BO PX PY PZ SX) H := hP.sub [0, 1, 2, 3, 4, 5, 6, 7, 8, 9, 10, 11, 12, 13, 14, 15] rfl
  have hD : va_D A (wMod G h0 qDR qLA qLE qCE qFI qCO qCR qSI qSR qMO qBO qPX qPY qPZ qSX dr bo po sx sy sw tx ty tz DR LA LE CE FI CO CR v_1.1 v_1.2 MO BO PX PY PZ SX) := hD.sub [0, 1, 2, 3, 4, 5, 6, 7, 8, 9, 10, 11, 12, 13, 14, 15] (by decide) rfl
  refine lv_aload_n hx hb dX9_bothSides_6 rfl (lv_at hl 0 rfl) ?_
  refine lv_aload_n hx hb dX9_bothSides_7 rfl (lv_at hl 0 rfl) ?_
  refine va_get (ci := 9) (v := .int sx) (C := RX9) (T := TX9) (N := 24) hx hb hts hin9 hown hK hP 0 rfl rfl 17 (by decide) hfl85 (fun _ h9 => h9) rfl dX9_bothSides_8 ?_
  refine lv_ineg hx hb dX9_bothSides_11 ?_
  refine va_put (ci := 9) (v := .int (-sx)) (ty := .int) (C := RX9) (T := TX9) (N := 24) hx hb hts hin9 tyX9 tyX9_ok nmX9 hown hK hP hD hS 0 rfl rfl 17 (by decide) hfl85 (fun _ h9 => h9) rfl (by decide +kernel) rfl rfl (Nat.le_of_ble_eq_true rfl) dX9_bothSides_12 (fun H locs hP hD hS => ?_)
  have hP : va_P (gD G) vwCl (wMod G h0 qDR qLA qLE qCE qFI qCO qCR qSI qSR qMO qBO qPX qPY qPZ qSX dr bo po (-sx) sy sw tx ty tz DR LA LE CE FI CO CR v_1.1 v_1.2 MO BO PX PY PZ SX) H := hP
  have hD : va_D A (wMod G h0 qDR qLA qLE qCE qFI qCO qCR qSI qSR qMO qBO qPX qPY qPZ qSX dr bo po (-sx) sy sw tx ty tz DR LA LE CE FI CO CR v_1.1 v_1.2 MO BO PX PY PZ SX) := hD
  refine lv_aload_n hx hb dX9_bothSides_15 rfl (lv_at hl 0 rfl) ?_
  refine lv_aload_n hx hb dX9_bothSides_16 rfl (lv_at hl 0 rfl) ?_
  refine va_get (ci := 9) (v := .int sy) (C := RX9) (T := TX9) (N := 24) hx hb hts hin9 hown hK hP 0 rfl rfl 18 (by decide) hfl88 (fun _ h9 => h9) rfl dX9_bothSides_17 ?_
  refine lv_ineg hx hb dX9_bothSides_20 ?_
  refine va_put (ci := 9) (v := .int (-sy)) (ty := .int) (C := RX9) (T := TX9) (N := 24) hx hb hts hin9 tyX9 tyX9_ok nmX9 hown hK hP hD hS 0 rfl rfl 18 (by decide) hfl88 (fun _ h9 => h9) rfl (by decide +kernel) rfl rfl (Nat.le_of_ble_eq_true rfl) dX9_bothSides_21 (fun H locs hP hD hS => ?_)
  have hP : va_P (gD G) vwCl (wMod G h0 qDR qLA qLE qCE qFI qCO qCR qSI qSR qMO qBO qPX qPY qPZ qSX dr bo po (-sx) (-sy) sw tx ty tz DR LA LE CE FI CO CR v_1.1 v_1.2 MO BO PX PY PZ SX) H := hP
  have hD : va_D A (wMod G h0 qDR qLA qLE qCE qFI qCO qCR qSI qSR qMO qBO qPX qPY qPZ qSX dr bo po (-sx) (-sy) sw tx ty tz DR LA LE CE FI CO CR v_1.1 v_1.2 MO BO PX PY PZ SX) := hD
  refine lv_aload_n hx hb dX9_bothSides_24 rfl (lv_at hl 0 rfl) ?_
  refine lv_aload_n hx hb dX9_bothSides_25 rfl (lv_at hl 0 rfl) ?_
  refine va_get (ci := 9) (v := .int sw) (C := RX9) (T := TX9) (N := 24) hx hb hts hin9 hown hK hP 0 rfl rfl 19 (by decide) hfl91 (fun _ h9 => h9) rfl dX9_bothSides_26 ?_
  refine lv_ineg hx hb dX9_bothSides_29 ?_
  refine va_put (ci := 9) (v := .int (-sw)) (ty := .int) (C := RX9) (T := TX9) (N := 24) hx hb hts hin9 tyX9 tyX9_ok nmX9 hown hK hP hD hS 0 rfl rfl 19 (by decide) hfl91 (fun _ h9 => h9) rfl (by decide +kernel) rfl rfl (Nat.le_of_ble_eq_true rfl) dX9_bothSides_30 (fun H locs hP hD hS => ?_)
  have hP : va_P (gD G) vwCl (wMod G h0 qDR qLA qLE qCE qFI qCO qCR qSI qSR qMO qBO qPX qPY qPZ qSX dr bo po (-sx) (-sy) (-sw) tx ty tz DR LA LE CE FI CO CR v_1.1 v_1.2 MO BO PX PY PZ SX) H := hP
  have hD : va_D A (wMod G h0 qDR qLA qLE qCE qFI qCO qCR qSI qSR qMO qBO qPX qPY qPZ qSX dr bo po (-sx) (-sy) (-sw) tx ty tz DR LA LE CE FI CO CR v_1.1 v_1.2 MO BO PX PY PZ SX) := hD
  refine lv_aload_n hx hb dX9_bothSides_33 rfl (lv_at hl 0 rfl) ?_
  refine lv_iload_n hx hb dX9_bothSides_34 rfl (lv_at hl 1 rfl) ?_
  refine lv_iload_n hx hb dX9_bothSides_35 rfl (lv_at hl 2 rfl) ?_
  obtain ⟨v_2, hv_2, hF⟩ := bd_s hF
  refine rw_ve (wf := (fun (u : (Nat → Int32) × (Nat → Int32)) => (wMod G h0 qDR qLA qLE qCE qFI qCO qCR qSI qSR qMO qBO qPX qPY qPZ qSX dr bo po (-sx) (-sy) (-sw) tx ty tz DR LA LE CE FI CO CR u.1 u.2 MO BO PX PY PZ SX))) (wr := []) (va_runV (As := [.int p1, .int p2]) (rest := []) ⟨hx, hb, hml, hown, hts⟩ (kX9_side l G h0 qDR qLA qLE qCE qFI qCO qCR qSI qSR qMO qBO qPX qPY qPZ qSX H.size dr bo po (-sx) (-sy) (-sw) tx ty tz DR LA LE CE FI CO CR v_1.1 v_1.2 MO BO PX PY PZ SX p1 p2 v_2 hv_2) (cwV 2 hts gX9_bothSides_X9_side rfl rfl rfl (by decide +kernel) ⟨Nat.le_of_ble_eq_true rfl, Nat.le_of_ble_eq_true rfl⟩) (pvW (q0 := 0) 9 hK (hP.sub (ws' := (wMod G h0 qDR qLA qLE qCE qFI qCO qCR qSI qSR qMO qBO qPX qPY qPZ qSX dr bo po (-sx) (-sy) (-sw) tx ty tz DR LA LE CE FI CO CR v_1.1 v_1.2 MO BO PX PY PZ SX)) [0, 1, 2, 3, 4, 5, 6, 7, 8, 9, 10, 11, 12, 13, 14, 15] rfl) (hD.sub (ws' := (wMod G h0 qDR qLA qLE qCE qFI qCO qCR qSI qSR qMO qBO qPX qPY qPZ qSX dr bo po (-sx) (-sy) (-sw) tx ty tz DR LA LE CE FI CO CR v_1.1 v_1.2 MO BO PX PY PZ SX)) [0, 1, 2, 3, 4, 5, 6, 7, 8, 9, 10, 11, 12, 13, 14, 15] (by decide) rfl) rfl rfl) rfl rfl hl.1 rfl (lv_room (Nat.le_of_ble_eq_true rfl)) dX9_bothSides_36 ⟨Nat.le_of_ble_eq_true rfl, Nat.le_of_ble_eq_true rfl⟩) hP hD hS hA [0, 1, 2, 3, 4, 5, 6, 7, 8, 9, 10, 11, 12, 13, 14, 15] [] rfl rfl (by decide) (by decide) (fun H locs  hP hD hS => ?_)
  have hP : va_P (gD G) vwCl (wMod G h0 qDR qLA qLE qCE qFI qCO qCR qSI qSR qMO qBO qPX qPY qPZ qSX dr bo po (-sx) (-sy) (-sw) tx ty tz DR LA LE CE FI CO CR v_2.1 v_2.2 MO BO PX PY PZ SX) H := hP.sub [0, 1, 2, 3, 4, 5, 6, 7, 8, 9, 10, 11, 12, 13, 14, 15] rfl
  have hD : va_D A (wMod G h0 qDR qLA qLE qCE qFI qCO qCR qSI qSR qMO qBO qPX qPY qPZ qSX dr bo po (-sx) (-sy) (-sw) tx ty tz DR LA LE CE FI CO CR v_2.1 v_2.2 MO BO PX PY PZ SX) := hD.sub [0, 1, 2, 3, 4, 5, 6, 7, 8, 9, 10, 11, 12, 13, 14, 15] (by decide) rfl
  exact W.vret hx hb hr (fun t ht hW => ⟨⟨(-sx, -sy, -sw, v_2.1, v_2.2), rfl, so_e hF, qW_mk ht hP hK hW hD⟩, hS.F ht⟩) hS.2.2 dX9_bothSides_39
def fX9_planeOf (sx : Int32) (sy : Int32) (sw : Int32) (PX : Nat → Int32) (PY : Nat → Int32) (PZ : Nat → Int32) (p1 : Int32) (p2 : Int32) (p3 : Int32) : Option (Int32 × Int32 × Int32) :=
  (gd_in p2 140 (gd_in p1 140 (gd_in p3 140 (bd (fX9_square sx sy sw ((PX p2.toNatClampNeg) - (PX p1.toNatClampNeg)) ((PY p2.toNatClampNeg) - (PY p1.toNatClampNeg)) ((PZ p2.toNatClampNeg) - (PZ p1.toNatClampNeg)) ((PX p3.toNatClampNeg) - (PX p1.toNatClampNeg)) ((PY p3.toNatClampNeg) - (PY p1.toNatClampNeg)) ((PZ p3.toNatClampNeg) - (PZ p1.toNatClampNeg))) (fun v_4 => (some (v_4.1, v_4.2.1, v_4.2.2)))))))
abbrev rX9_planeOf : Room := { frames := 3, cells := 0, slots := 0, locals := 74 }
set_option maxHeartbeats 40000000 in
set_option maxRecDepth 100000 in
theorem kX9_planeOf (l : Launch) (G : GT) (h0 qDR qLA qLE qCE qFI qCO qCR qSI qSR qMO qBO qPX qPY qPZ qSX : Nat) (sz : Nat) (dr : Int32) (bo : Int32) (po : Int32) (sx : Int32) (sy : Int32) (sw : Int32) (tx : Int32) (ty : Int32) (tz : Int32) (DR : Nat → Int32) (LA : Nat → Int32) (LE : Nat → Int32) (CE : Nat → Int64) (FI : Nat → Int32) (CO : Nat → Int32) (CR : Nat → Int32) (SI : Nat → Int32) (SR : Nat → Int32) (MO : Nat → Int32) (BO : Nat → Int32) (PX : Nat → Int32) (PY : Nat → Int32) (PZ : Nat → Int32) (SX : Nat → Int32) (p1 : Int32) (p2 : Int32) (p3 : Int32) (res : Int32 × Int32 × Int32) (hF : fX9_planeOf sx sy sw PX PY PZ p1 p2 p3 = some res) : Met l yX9_planeOf wsX9_planeOf rX9_planeOf (va_Pc [.ref h0, .int p1, .int p2, .int p3] (pW G sz (wMod G h0 qDR qLA qLE qCE qFI qCO qCR qSI qSR qMO qBO qPX qPY qPZ qSX dr bo po sx sy sw tx ty tz DR LA LE CE FI CO CR SI SR MO BO PX PY PZ SX))) (va_Qv (fun (u : Int32 × Int32 × Int32) => u = res) (fun u t => qW G (va_A (wMod G h0 qDR qLA qLE qCE qFI qCO qCR qSI qSR qMO qBO qPX qPY qPZ qSX dr bo po sx sy sw tx ty tz DR LA LE CE FI CO CR SI SR MO BO PX PY PZ SX) sz) (wMod G h0 qDR qLA qLE qCE qFI qCO qCR qSI qSR qMO qBO qPX qPY qPZ qSX dr bo po u.1 u.2.1 u.2.2 tx ty tz DR LA LE CE FI CO CR SI SR MO BO PX PY PZ SX) t) (va_A (wMod G h0 qDR qLA qLE qCE qFI qCO qCR qSI qSR qMO qBO qPX qPY qPZ qSX dr bo po sx sy sw tx ty tz DR LA LE CE FI CO CR SI SR MO BO PX PY PZ SX) sz)) 0 0 (va_A (wMod G h0 qDR qLA qLE qCE qFI qCO qCR qSI qSR qMO qBO qPX qPY qPZ qSX dr bo po sx sy sw tx ty tz DR LA LE CE FI CO CR SI SR MO BO PX PY PZ SX) sz) := by
  refine Met.ofW (cc := cX9_planeOf) (maxL := 4) (ret := none) (by decide) rfl ?_
  intro p e s m args below meth c s₁ B hml hv
  obtain ⟨rfl, hsz, hP, hK, hD0⟩ := hv
  have hx := B.exec
  have hb := B.bytes
  have hr := B.returns
  have hts := atoms_spec (ws := wsX9_planeOf) B.pre
  have hown : s.vm.findClass RX9 = some m.cls := findClass_of_methodNamed B.named
  have hlocks := B.notSynchronized
  subst hsz
  have hD := hD0.self (sz := s.heap.size)
  generalize hAe : va_A (wMod G h0 qDR qLA qLE qCE qFI qCO qCR qSI qSR qMO qBO qPX qPY qPZ qSX dr bo po sx sy sw tx ty tz DR LA LE CE FI CO CR SI SR MO BO PX PY PZ SX) s.heap.size = A at hD ⊢
  have hA : ∀ q : Nat, s.heap.size ≤ q → A q := fun q h => by rw [← hAe]; exact Or.inr h
  have hS : va_S A s.heap s.heap [] := va_S.rf
  have hin9 : ∀ w ∈ u_ws RX9 TX9 24, w ∈ wsX9_planeOf := by decide +kernel
  have hfl44 := hts (.fieldLink RX9 44 "SwellBodiesModel" "px" "[I") (by decide +kernel)
  have hfl47 := hts (.fieldLink RX9 47 "SwellBodiesModel" "py" "[I") (by decide +kernel)
  have hfl50 := hts (.fieldLink RX9 50 "SwellBodiesModel" "pz" "[I") (by decide +kernel)
  have hl := lv_entry ([.ref h0, .int p1, .int p2, .int p3]) (n := 4) (Nat.le_of_ble_eq_true rfl)
  rw [lg_entry_eq]
  generalize (lg_sl ([.ref h0, .int p1, .int p2, .int p3]) ++ List.replicate (4 - (lg_sl ([.ref h0, .int p1, .int p2, .int p3])).length) Slot.unset).toArray = ls at hl ⊢
  have hl : lv_has ls 4 [(0, .ref h0), (1, .int p1), (2, .int p2), (3, .int p3)] := hl
  unfold fX9_planeOf at hF
  refine lv_aload_n hx hb dX9_planeOf_0 rfl (lv_at hl 0 rfl) ?_
  refine lv_aload_n hx hb dX9_planeOf_1 rfl (lv_at hl 0 rfl) ?_
  refine va_get (ci := 9) (v := .ref qPX) (C := RX9) (T := TX9) (N := 24) hx hb hts hin9 hown hK hP 0 rfl rfl 14 (by decide) hfl44 (fun _ h9 => h9) rfl dX9_planeOf_2 ?_
  refine lv_iload_n hx hb dX9_planeOf_5 rfl (lv_at hl 2 rfl) ?_
  obtain ⟨hi_1, hF⟩ := gd_in_s hF
  refine va_iald hx hb hK hP 12 0 rfl rfl hi_1 dX9_planeOf_6 ?_
  refine lv_aload_n hx hb dX9_planeOf_7 rfl (lv_at hl 0 rfl) ?_
  refine va_get (ci := 9) (v := .ref qPX) (C := RX9) (T := TX9) (N := 24) hx hb hts hin9 hown hK hP 0 rfl rfl 14 (by decide) hfl44 (fun _ h9 => h9) rfl dX9_planeOf_8 ?_
  refine lv_iload_n hx hb dX9_planeOf_11 rfl (lv_at hl 1 rfl) ?_
  obtain ⟨hi_2, hF⟩ := gd_in_s hF
  refine va_iald hx hb hK hP 12 0 rfl rfl hi_2 dX9_planeOf_12 ?_
  refine lv_isub hx hb dX9_planeOf_13 ?_
  refine lv_aload_n hx hb dX9_planeOf_14 rfl (lv_at hl 0 rfl) ?_
  refine va_get (ci := 9) (v := .ref qPY) (C := RX9) (T := TX9) (N := 24) hx hb hts hin9 hown hK hP 0 rfl rfl 15 (by decide) hfl47 (fun _ h9 => h9) rfl dX9_planeOf_15 ?_
  refine lv_iload_n hx hb dX9_planeOf_18 rfl (lv_at hl 2 rfl) ?_
  refine va_iald hx hb hK hP 13 0 rfl rfl hi_1 dX9_planeOf_19 ?_
  refine lv_aload_n hx hb dX9_planeOf_20 rfl (lv_at hl 0 rfl) ?_
  refine va_get (ci := 9) (v := .ref qPY) (C := RX9) (T := TX9) (N := 24) hx hb hts hin9 hown hK hP 0 rfl rfl 15 (by decide) hfl47 (fun _ h9 => h9) rfl dX9_planeOf_21 ?_
  refine lv_iload_n hx hb dX9_planeOf_24 rfl (lv_at hl 1 rfl) ?_
  refine va_iald hx hb hK hP 13 0 rfl rfl hi_2 dX9_planeOf_25 ?_
  refine lv_isub hx hb dX9_planeOf_26 ?_
  refine lv_aload_n hx hb dX9_planeOf_27 rfl (lv_at hl 0 rfl) ?_
  refine va_get (ci := 9) (v := .ref qPZ) (C := RX9) (T := TX9) (N := 24) hx hb hts hin9 hown hK hP 0 rfl rfl 16 (by decide) hfl50 (fun _ h9 => h9) rfl dX9_planeOf_28 ?_
  refine lv_iload_n hx hb dX9_planeOf_31 rfl (lv_at hl 2 rfl) ?_
  refine va_iald hx hb hK hP 14 0 rfl rfl hi_1 dX9_planeOf_32 ?_
  refine lv_aload_n hx hb dX9_planeOf_33 rfl (lv_at hl 0 rfl) ?_
  refine va_get (ci := 9) (v := .ref qPZ) (C := RX9) (T := TX9) (N := 24) hx hb hts hin9 hown hK hP 0 rfl rfl 16 (by decide) hfl50 (fun _ h9 => h9) rfl dX9_planeOf_34 ?_
  refine lv_iload_n hx hb dX9_planeOf_37 rfl (lv_at hl 1 rfl) ?_
  refine va_iald hx hb hK hP 14 0 rfl rfl hi_2 dX9_planeOf_38 ?_
  refine lv_isub hx hb dX9_planeOf_39 ?_
  refine lv_aload_n hx hb dX9_planeOf_40 rfl (lv_at hl 0 rfl) ?_
  refine va_get (ci := 9) (v := .ref qPX) (C := RX9) (T := TX9) (N := 24) hx hb hts hin9 hown hK hP 0 rfl rfl 14 (by decide) hfl44 (fun _ h9 => h9) rfl dX9_planeOf_41 ?_
  refine lv_iload_n hx hb dX9_planeOf_44 rfl (lv_at hl 3 rfl) ?_
  obtain ⟨hi_3, hF⟩ := gd_in_s hF
  refine va_iald hx hb hK hP 12 0 rfl rfl hi_3 dX9_planeOf_45 ?_
  refine lv_aload_n hx hb dX9_planeOf_46 rfl (lv_at hl 0 rfl) ?_
  refine va_get (ci := 9) (v := .ref qPX) (C := RX9) (T := TX9) (N := 24) hx hb hts hin9 hown hK hP 0 rfl rfl 14 (by decide) hfl44 (fun _ h9 => h9) rfl dX9_planeOf_47 ?_
  refine lv_iload_n hx hb dX9_planeOf_50 rfl (lv_at hl 1 rfl) ?_
  refine va_iald hx hb hK hP 12 0 rfl rfl hi_2 dX9_planeOf_51 ?_
  refine lv_isub hx hb dX9_planeOf_52 ?_
  refine lv_aload_n hx hb dX9_planeOf_53 rfl (lv_at hl 0 rfl) ?_
  refine va_get (ci := 9) (v := .ref qPY) (C := RX9) (T := TX9) (N := 24) hx hb hts hin9 hown hK hP 0 rfl rfl 15 (by decide) hfl47 (fun _ h9 => h9) rfl dX9_planeOf_54 ?_
  refine lv_iload_n hx hb dX9_planeOf_57 rfl (lv_at hl 3 rfl) ?_
  refine va_iald hx hb hK hP 13 0 rfl rfl hi_3 dX9_planeOf_58 ?_
  refine lv_aload_n hx hb dX9_planeOf_59 rfl (lv_at hl 0 rfl) ?_
  refine va_get (ci := 9) (v := .ref qPY) (C := RX9) (T := TX9) (N := 24) hx hb hts hin9 hown hK hP 0 rfl rfl 15 (by decide) hfl47 (fun _ h9 => h9) rfl dX9_planeOf_60 ?_
  refine lv_iload_n hx hb dX9_planeOf_63 rfl (lv_at hl 1 rfl) ?_
  refine va_iald hx hb hK hP 13 0 rfl rfl hi_2 dX9_planeOf_64 ?_
  refine lv_isub hx hb dX9_planeOf_65 ?_
  refine lv_aload_n hx hb dX9_planeOf_66 rfl (lv_at hl 0 rfl) ?_
  refine va_get (ci := 9) (v := .ref qPZ) (C := RX9) (T := TX9) (N := 24) hx hb hts hin9 hown hK hP 0 rfl rfl 16 (by decide) hfl50 (fun _ h9 => h9) rfl dX9_planeOf_67 ?_
  refine lv_iload_n hx hb dX9_planeOf_70 rfl (lv_at hl 3 rfl) ?_
  refine va_iald hx hb hK hP 14 0 rfl rfl hi_3 dX9_planeOf_71 ?_
  refine lv_aload_n hx hb dX9_planeOf_72 rfl (lv_at hl 0 rfl) ?_
  refine va_get (ci := 9) (v := .ref qPZ) (C := RX9) (T := TX9) (N := 24) hx hb hts hin9 hown hK hP 0 rfl rfl 16 (by decide) hfl50 (fun _ h9 => h9) rfl dX9_planeOf_73 ?_
  refine lv_iload_n hx hb dX9_planeOf_76 rfl (lv_at hl 1 rfl) ?_
  refine va_iald hx hb hK hP 14 0 rfl rfl hi_2 dX9_planeOf_77 ?_
  refine lv_isub hx hb dX9_planeOf_78 ?_
  obtain ⟨v_4, hv_4, hF⟩ := bd_s hF
  refine rw_ve (wf := (fun (u : Int32 × Int32 × Int32) => (wMod G h0 qDR qLA qLE qCE qFI qCO qCR qSI qSR qMO qBO qPX qPY qPZ qSX dr bo po u.1 u.2.1 u.2.2 tx ty tz DR LA LE CE FI CO CR SI SR MO BO PX PY PZ SX))) (wr := []) (va_runV (As := [.int ((PX p2.toNatClampNeg) - (PX p1.toNatClampNeg)), .int ((PY p2.toNatClampNeg) - (PY p1.toNatClampNeg)), .int ((PZ p2.toNatClampNeg) - (PZ p1.toNatClampNeg)), .int ((PX p3.toNatClampNeg) - (PX p1.toNatClampNeg)), .int ((PY p3.toNatClampNeg) - (PY p1.toNatClampNeg)), .int ((PZ p3.toNatClampNeg) - (PZ p1.toNatClampNeg))]) (rest := []) ⟨hx, hb, hml, hown, hts⟩ (kX9_square l G h0 qDR qLA qLE qCE qFI qCO qCR qSI qSR qMO qBO qPX qPY qPZ qSX s.heap.size dr bo po sx sy sw tx ty tz DR LA LE CE FI CO CR SI SR MO BO PX PY PZ SX ((PX p2.toNatClampNeg) - (PX p1.toNatClampNeg)) ((PY p2.toNatClampNeg) - (PY p1.toNatClampNeg)) ((PZ p2.toNatClampNeg) - (PZ p1.toNatClampNeg)) ((PX p3.toNatClampNeg) - (PX p1.toNatClampNeg)) ((PY p3.toNatClampNeg) - (PY p1.toNatClampNeg)) ((PZ p3.toNatClampNeg) - (PZ p1.toNatClampNeg)) v_4 hv_4) (cwV 6 hts gX9_planeOf_X9_square rfl rfl rfl (by decide +kernel) ⟨Nat.le_of_ble_eq_true rfl, Nat.le_of_ble_eq_true rfl⟩) (pvW (q0 := 0) 9 hK (hP.sub (ws' := (wMod G h0 qDR qLA qLE qCE qFI qCO qCR qSI qSR qMO qBO qPX qPY qPZ qSX dr bo po sx sy sw tx ty tz DR LA LE CE FI CO CR SI SR MO BO PX PY PZ SX)) [0, 1, 2, 3, 4, 5, 6, 7, 8, 9, 10, 11, 12, 13, 14, 15] rfl) (hD.sub (ws' := (wMod G h0 qDR qLA qLE qCE qFI qCO qCR qSI qSR qMO qBO qPX qPY qPZ qSX dr bo po sx sy sw tx ty tz DR LA LE CE FI CO CR SI SR MO BO PX PY PZ SX)) [0, 1, 2, 3, 4, 5, 6, 7, 8, 9, 10, 11, 12, 13, 14, 15] (by decide) rfl) rfl rfl) rfl rfl hl.1 rfl (lv_room (Nat.le_of_ble_eq_true rfl)) dX9_planeOf_79 ⟨Nat.le_of_ble_eq_true rfl, Nat.le_of_ble_eq_true rfl⟩) hP hD hS hA [0, 1, 2, 3, 4, 5, 6, 7, 8, 9, 10, 11, 12, 13, 14, 15] [] rfl rfl (by decide) (by decide) (fun H locs  hP hD hS => ?_)
  have hP : va_P (gD G) vwCl (wMod G h0 qDR qLA qLE qCE qFI qCO qCR qSI qSR qMO qBO qPX qPY qPZ qSX dr bo po v_4.1 v_4.2.1 v_4.2.2 tx ty tz DR LA LE CE FI CO CR SI SR MO BO PX PY PZ SX) H := hP.sub [0, 1, 2, 3, 4, 5, 6, 7, 8, 9, 10, 11, 12, 13, 14, 15] rfl
  have hD : va_D A (wMod G h0 qDR qLA qLE qCE qFI qCO qCR qSI qSR qMO qBO qPX qPY qPZ qSX dr bo po v_4.1 v_4.2.1 v_4.2.2 tx ty tz DR LA LE CE FI CO CR SI SR MO BO PX PY PZ SX) := hD.sub [0, 1, 2, 3, 4, 5, 6, 7, 8, 9, 10, 11, 12, 13, 14, 15] (by decide) rfl
  exact W.vret hx hb hr (fun t ht hW => ⟨⟨(v_4.1, v_4.2.1, v_4.2.2), rfl, so_e hF, qW_mk ht hP hK hW hD⟩, hS.F ht⟩) hS.2.2 dX9_planeOf_82
def LX9_filled_218 (po : Int32) (PX : Nat → Int32) (PY : Nat → Int32) (PZ : Nat → Int32)  : Nat → Int32 → Int32 → Int32 → Int32 → Int32 → Int32 → (Nat → Int32) → Option (Int32 × Int32 × Int32 × Int32 × (Nat → Int32))
  | 0, _, _, _, _, _, _, _ => none
  | k + 1, a1, a4, a5, msx, msy, msw, mBO =>
  (if po ≤ a5 then (gd_in (4 * a1) 32 (gd_in ((4 * a1) + 1) 32 (gd_in ((4 * a1) + 2) 32 (gd_in ((4 * a1) + 3) 32 (some (2, msx, msy, msw, upd (upd (upd (upd mBO (4 * a1).toNatClampNeg msx) ((4 * a1) + 1).toNatClampNeg msy) ((4 * a1) + 2).toNatClampNeg msw) ((4 * a1) + 3).toNatClampNeg a4)))))) else (bd (fX9_along msx msy msw PX PY PZ a5) (fun v_18 => (if v_18 = a4 then (LX9_filled_218 po PX PY PZ k a1 a4 (a5 + 1) msx msy msw mBO) else (some (3, msx, msy, msw, mBO))))))
def JX9_filled_208 (po : Int32) (PX : Nat → Int32) (PY : Nat → Int32) (PZ : Nat → Int32)  (a1 : Int32) (msx : Int32) (msy : Int32) (msw : Int32) (mBO : Nat → Int32) : Option (Int32 × Int32 × Int32 × Int32 × (Nat → Int32)) :=
  (bd (fX9_along msx msy msw PX PY PZ 0) (fun v_12 => (LX9_filled_218 po PX PY PZ FU a1 v_12 0 msx msy msw mBO)))
def JX9_filled_176 (po : Int32) (PX : Nat → Int32) (PY : Nat → Int32) (PZ : Nat → Int32)  (a1 : Int32) (t0 : Int32) (msx : Int32) (msy : Int32) (msw : Int32) (mBO : Nat → Int32) : Option (Int32 × Int32 × Int32 × Int32 × (Nat → Int32)) :=
  (if t0 = 0 then (JX9_filled_208 po PX PY PZ a1 msx msy msw mBO) else (JX9_filled_208 po PX PY PZ a1 (-msx) (-msy) (-msw) mBO))
def JX9_filled_171 (po : Int32) (PX : Nat → Int32) (PY : Nat → Int32) (PZ : Nat → Int32)  (a1 : Int32) (msx : Int32) (msy : Int32) (msw : Int32) (mBO : Nat → Int32) : Option (Int32 × Int32 × Int32 × Int32 × (Nat → Int32)) :=
  (JX9_filled_176 po PX PY PZ a1 1 msx msy msw mBO)
def JX9_filled_175 (po : Int32) (PX : Nat → Int32) (PY : Nat → Int32) (PZ : Nat → Int32)  (a1 : Int32) (msx : Int32) (msy : Int32) (msw : Int32) (mBO : Nat → Int32) : Option (Int32 × Int32 × Int32 × Int32 × (Nat → Int32)) :=
  (JX9_filled_176 po PX PY PZ a1 0 msx msy msw mBO)
def JX9_filled_126 (po : Int32) (PX : Nat → Int32) (PY : Nat → Int32) (PZ : Nat → Int32)  (a1 : Int32) (a2 : Int32) (msx : Int32) (msy : Int32) (msw : Int32) (mBO : Nat → Int32) : Option (Int32 × Int32 × Int32 × Int32 × (Nat → Int32)) :=
  (if a2 = po then (some (1, msx, msy, msw, mBO)) else (if msx < 0 then (JX9_filled_171 po PX PY PZ a1 msx msy msw mBO) else (if msx = 0 then (if msy < 0 then (JX9_filled_171 po PX PY PZ a1 msx msy msw mBO) else (if msy = 0 then (if 0 ≤ msw then (JX9_filled_175 po PX PY PZ a1 msx msy msw mBO) else (JX9_filled_171 po PX PY PZ a1 msx msy msw mBO)) else (JX9_filled_175 po PX PY PZ a1 msx msy msw mBO))) else (JX9_filled_175 po PX PY PZ a1 msx msy msw mBO))))
def LX9_filled_95 (po : Int32) (PX : Nat → Int32) (PY : Nat → Int32) (PZ : Nat → Int32)  : Nat → Int32 → Int32 → Int32 → Int32 → Int32 → (Nat → Int32) → Option (Int32 × Int32 × Int32 × Int32 × (Nat → Int32))
  | 0, _, _, _, _, _, _ => none
  | k + 1, a1, a2, msx, msy, msw, mBO =>
  (if po ≤ a2 then (JX9_filled_126 po PX PY PZ a1 a2 msx msy msw mBO) else (bd (fX9_planeOf msx msy msw PX PY PZ 0 1 a2) (fun v_24 => (bd (fX9_isNought v_24.1 v_24.2.1 v_24.2.2) (fun v_25 => (if v_25 = 0 then (JX9_filled_126 po PX PY PZ a1 a2 v_24.1 v_24.2.1 v_24.2.2 mBO) else (LX9_filled_95 po PX PY PZ k a1 (a2 + 1) v_24.1 v_24.2.1 v_24.2.2 mBO)))))))
def fX9_filled (po : Int32) (sx : Int32) (sy : Int32) (sw : Int32) (BO : Nat → Int32) (PX : Nat → Int32) (PY : Nat → Int32) (PZ : Nat → Int32) (p1 : Int32) : Option (Int32 × Int32 × Int32 × Int32 × (Nat → Int32)) :=
  (if po = 1 then (some (0, sx, sy, sw, BO)) else (gd_in 1 140 (gd_in 0 140 (bd (fX9_step sx sy sw ((PX (1 : Int32).toNatClampNeg) - (PX (0 : Int32).toNatClampNeg)) ((PY (1 : Int32).toNatClampNeg) - (PY (0 : Int32).toNatClampNeg)) ((PZ (1 : Int32).toNatClampNeg) - (PZ (0 : Int32).toNatClampNeg))) (fun v_4 => (gd_in (4 * p1) 32 (gd_in ((4 * p1) + 1) 32 (gd_in ((4 * p1) + 2) 32 (LX9_filled_95 po PX PY PZ FU p1 2 v_4.1 v_4.2.1 v_4.2.2 (upd (upd (upd BO (4 * p1).toNatClampNeg v_4.1) ((4 * p1) + 1).toNatClampNeg v_4.2.1) ((4 * p1) + 2).toNatClampNeg v_4.2.2))))))))))
abbrev rX9_filled : Room := { frames := 4, cells := 0, slots := 0, locals := 97 }
set_option maxHeartbeats 40000000 in
set_option maxRecDepth 100000 in
theorem kX9_filled (l : Launch) (G : GT) (h0 qDR qLA qLE qCE qFI qCO qCR qSI qSR qMO qBO qPX qPY qPZ qSX : Nat) (sz : Nat) (dr : Int32) (bo : Int32) (po : Int32) (sx : Int32) (sy : Int32) (sw : Int32) (tx : Int32) (ty : Int32) (tz : Int32) (DR : Nat → Int32) (LA : Nat → Int32) (LE : Nat → Int32) (CE : Nat → Int64) (FI : Nat → Int32) (CO : Nat → Int32) (CR : Nat → Int32) (SI : Nat → Int32) (SR : Nat → Int32) (MO : Nat → Int32) (BO : Nat → Int32) (PX : Nat → Int32) (PY : Nat → Int32) (PZ : Nat → Int32) (SX : Nat → Int32) (p1 : Int32) (res : Int32 × Int32 × Int32 × Int32 × (Nat → Int32)) (hF : fX9_filled po sx sy sw BO PX PY PZ p1 = some res) : Met l yX9_filled wsX9_filled rX9_filled (va_Pc [.ref h0, .int p1] (pW G sz (wMod G h0 qDR qLA qLE qCE qFI qCO qCR qSI qSR qMO qBO qPX qPY qPZ qSX dr bo po sx sy sw tx ty tz DR LA LE CE FI CO CR SI SR MO BO PX PY PZ SX))) (va_Qi (fun (r : Int32) (u : Int32 × Int32 × Int32 × (Nat → Int32)) => r = res.1 ∧ u = res.2) (fun u t => qW G (va_A (wMod G h0 qDR qLA qLE qCE qFI qCO qCR qSI qSR qMO qBO qPX qPY qPZ qSX dr bo po sx sy sw tx ty tz DR LA LE CE FI CO CR SI SR MO BO PX PY PZ SX) sz) (wMod G h0 qDR qLA qLE qCE qFI qCO qCR qSI qSR qMO qBO qPX qPY qPZ qSX dr bo po u.1 u.2.1 u.2.2.1 tx ty tz DR LA LE CE FI CO CR SI SR MO u.2.2.2 PX PY PZ SX) t) (va_A (wMod G h0 qDR qLA qLE qCE qFI qCO qCR qSI qSR qMO qBO qPX qPY qPZ qSX dr bo po sx sy sw tx ty tz DR LA LE CE FI CO CR SI SR MO BO PX PY PZ SX) sz)) 0 0 (va_A (wMod G h0 qDR qLA qLE qCE qFI qCO qCR qSI qSR qMO qBO qPX qPY qPZ qSX dr bo po sx sy sw tx ty tz DR LA LE CE FI CO CR SI SR MO BO PX PY PZ SX) sz) := by
  refine Met.ofW (cc := cX9_filled) (maxL := 6) (ret := (some .int)) (by decide) rfl ?_
  intro p e s m args below meth c s₁ B hml hv
  obtain ⟨rfl, hsz, hP, hK, hD0⟩ := hv
  have hx := B.exec
  have hb := B.bytes
  have hr := B.returns
  have hts := atoms_spec (ws := wsX9_filled) B.pre
  have hown : s.vm.findClass RX9 = some m.cls := findClass_of_methodNamed B.named
  have hlocks := B.notSynchronized
  subst hsz
  have hD := hD0.self (sz := s.heap.size)
  generalize hAe : va_A (wMod G h0 qDR qLA qLE qCE qFI qCO qCR qSI qSR qMO qBO qPX qPY qPZ qSX dr bo po sx sy sw tx ty tz DR LA LE CE FI CO CR SI SR MO BO PX PY PZ SX) s.heap.size = A at hD ⊢
  have hA : ∀ q : Nat, s.heap.size ≤ q → A q := fun q h => by rw [← hAe]; exact Or.inr h
  have hS : va_S A s.heap s.heap [] := va_S.rf
  have hin9 : ∀ w ∈ u_ws RX9 TX9 24, w ∈ wsX9_filled := by decide +kernel
  have hfl74 := hts (.fieldLink RX9 74 "SwellBodiesModel" "points" "I") (by decide +kernel)
  have hfl44 := hts (.fieldLink RX9 44 "SwellBodiesModel" "px" "[I") (by decide +kernel)
  have hfl47 := hts (.fieldLink RX9 47 "SwellBodiesModel" "py" "[I") (by decide +kernel)
  have hfl50 := hts (.fieldLink RX9 50 "SwellBodiesModel" "pz" "[I") (by decide +kernel)
  have hfl41 := hts (.fieldLink RX9 41 "SwellBodiesModel" "bond" "[I") (by decide +kernel)
  have hfl85 := hts (.fieldLink RX9 85 "SwellBodiesModel" "sx" "I") (by decide +kernel)
  have hfl88 := hts (.fieldLink RX9 88 "SwellBodiesModel" "sy" "I") (by decide +kernel)
  have hfl91 := hts (.fieldLink RX9 91 "SwellBodiesModel" "sz" "I") (by decide +kernel)
  have hl := lv_entry ([.ref h0, .int p1]) (n := 6) (Nat.le_of_ble_eq_true rfl)
  rw [lg_entry_eq]
  generalize (lg_sl ([.ref h0, .int p1]) ++ List.replicate (6 - (lg_sl ([.ref h0, .int p1])).length) Slot.unset).toArray = ls at hl ⊢
  have hl : lv_has ls 6 [(0, .ref h0), (1, .int p1)] := hl
  have hL218 : ∀ (k : Nat), ∀ (a1 : Int32) (a4 : Int32) (a5 : Int32) (msx : Int32) (msy : Int32) (msw : Int32) (mBO : Nat → Int32) (H : Heap) (locs : List Loc) (ls : Array Slot), LX9_filled_218 po PX PY PZ k a1 a4 a5 msx msy msw mBO = some res → va_P (gD G) vwCl (wMod G h0 qDR qLA qLE qCE qFI qCO qCR qSI qSR qMO qBO qPX qPY qPZ qSX dr bo po msx msy msw tx ty tz DR LA LE CE FI CO CR SI SR MO mBO PX PY PZ SX) H → va_D A (wMod G h0 qDR qLA qLE qCE qFI qCO qCR qSI qSR qMO qBO qPX qPY qPZ qSX dr bo po msx msy msw tx ty tz DR LA LE CE FI CO CR SI SR MO mBO PX PY PZ SX) → va_S A s.heap H locs → lv_has ls 6 [(0, .ref h0), (1, .int a1), (4, .int a4), (5, .int a5)] → W p l e (headSpec wsX9_filled rX9_filled).room s m ([.ref h0, .int p1] : List Value).toArray below meth c H locs 0 0 (MQ below (va_Qi (fun (r : Int32) (u : Int32 × Int32 × Int32 × (Nat → Int32)) => r = res.1 ∧ u = res.2) (fun u t => qW G A (wMod G h0 qDR qLA qLE qCE qFI qCO qCR qSI qSR qMO qBO qPX qPY qPZ qSX dr bo po u.1 u.2.1 u.2.2.1 tx ty tz DR LA LE CE FI CO CR SI SR MO u.2.2.2 PX PY PZ SX) t) A) ([.ref h0, .int p1] : List Value).toArray s 0 0 A) (F0 m 218 ls []) := by
    intro k
    induction k with
    | zero =>
      intro a1 a4 a5 msx msy msw mBO H locs ls hF hP hD hS hl
      rw [LX9_filled_218] at hF
      cases hF
    | succ k ih =>
      intro a1 a4 a5 msx msy msw mBO H locs ls hF hP hD hS hl
      rw [LX9_filled_218] at hF
      refine lv_iload hx hb dX9_filled_218 (lv_at hl 3 rfl) ?_
      refine lv_aload_n hx hb dX9_filled_220 rfl (lv_at hl 0 rfl) ?_
      refine va_get (ci := 9) (v := .int po) (C := RX9) (T := TX9) (N := 24) hx hb hts hin9 hown hK hP 0 rfl rfl 13 (by decide) hfl74 (fun _ h9 => h9) rfl dX9_filled_221 ?_
      refine lv_icmp_ge (tgt := 246) hx hb dX9_filled_224 (by decide) (fun c_13 => ?_) (fun c_13 => ?_)
      · replace hF := it_p c_13 hF
        refine lv_aload_n hx hb dX9_filled_246 rfl (lv_at hl 0 rfl) ?_
        refine va_get (ci := 9) (v := .ref qBO) (C := RX9) (T := TX9) (N := 24) hx hb hts hin9 hown hK hP 0 rfl rfl 12 (by decide) hfl41 (fun _ h9 => h9) rfl dX9_filled_247 ?_
        refine lv_iconst (v := 4) hx hb dX9_filled_250 (by decide) ?_
        refine lv_iload_n hx hb dX9_filled_251 rfl (lv_at hl 1 rfl) ?_
        refine lv_imul hx hb dX9_filled_252 ?_
        refine lv_aload_n hx hb dX9_filled_253 rfl (lv_at hl 0 rfl) ?_
        refine va_get (ci := 9) (v := .int msx) (C := RX9) (T := TX9) (N := 24) hx hb hts hin9 hown hK hP 0 rfl rfl 17 (by decide) hfl85 (fun _ h9 => h9) rfl dX9_filled_254 ?_
        obtain ⟨hi_14, hF⟩ := gd_in_s hF
        refine va_iast hx hb hK hP hD hS 11 0 rfl rfl hi_14 dX9_filled_257 (fun H locs hP hD hS => ?_)
        have hP : va_P (gD G) vwCl (wMod G h0 qDR qLA qLE qCE qFI qCO qCR qSI qSR qMO qBO qPX qPY qPZ qSX dr bo po msx msy msw tx ty tz DR LA LE CE FI CO CR SI SR MO (upd mBO (4 * a1).toNatClampNeg msx) PX PY PZ SX) H := hP
        have hD : va_D A (wMod G h0 qDR qLA qLE qCE qFI qCO qCR qSI qSR qMO qBO qPX qPY qPZ qSX dr bo po msx msy msw tx ty tz DR LA LE CE FI CO CR SI SR MO (upd mBO (4 * a1).toNatClampNeg msx) PX PY PZ SX) := hD
        refine lv_aload_n hx hb dX9_filled_258 rfl (lv_at hl 0 rfl) ?_
        refine va_get (ci := 9) (v := .ref qBO) (C := RX9) (T := TX9) (N := 24) hx hb hts hin9 hown hK hP 0 rfl rfl 12 (by decide) hfl41 (fun _ h9 => h9) rfl dX9_filled_259 ?_
        refine lv_iconst (v := 4) hx hb dX9_filled_262 (by decide) ?_
        refine lv_iload_n hx hb dX9_filled_263 rfl (lv_at hl 1 rfl) ?_
        refine lv_imul hx hb dX9_filled_264 ?_
        refine lv_iconst (v := 1) hx hb dX9_filled_265 (by decide) ?_
        refine lv_iadd hx hb dX9_filled_266 ?_
        refine lv_aload_n hx hb dX9_filled_267 rfl (lv_at hl 0 rfl) ?_
        refine va_get (ci := 9) (v := .int msy) (C := RX9) (T := TX9) (N := 24) hx hb hts hin9 hown hK hP 0 rfl rfl 18 (by decide) hfl88 (fun _ h9 => h9) rfl dX9_filled_268 ?_
        obtain ⟨hi_15, hF⟩ := gd_in_s hF
        refine va_iast hx hb hK hP hD hS 11 0 rfl rfl hi_15 dX9_filled_271 (fun H locs hP hD hS => ?_)
        have hP : va_P (gD G) vwCl (wMod G h0 qDR qLA qLE qCE qFI qCO qCR qSI qSR qMO qBO qPX qPY qPZ qSX dr bo po msx msy msw tx ty tz DR LA LE CE FI CO CR SI SR MO (upd (upd mBO (4 * a1).toNatClampNeg msx) ((4 * a1) + 1).toNatClampNeg msy) PX PY PZ SX) H := hP
        have hD : va_D A (wMod G h0 qDR qLA qLE qCE qFI qCO qCR qSI qSR qMO qBO qPX qPY qPZ qSX dr bo po msx msy msw tx ty tz DR LA LE CE FI CO CR SI SR MO (upd (upd mBO (4 * a1).toNatClampNeg msx) ((4 * a1) + 1).toNatClampNeg msy) PX PY PZ SX) := hD
        refine lv_aload_n hx hb dX9_filled_272 rfl (lv_at hl 0 rfl) ?_
        refine va_get (ci := 9) (v := .ref qBO) (C := RX9) (T := TX9) (N := 24) hx hb hts hin9 hown hK hP 0 rfl rfl 12 (by decide) hfl41 (fun _ h9 => h9) rfl dX9_filled_273 ?_
        refine lv_iconst (v := 4) hx hb dX9_filled_276 (by decide) ?_
        refine lv_iload_n hx hb dX9_filled_277 rfl (lv_at hl 1 rfl) ?_
        refine lv_imul hx hb dX9_filled_278 ?_
        refine lv_iconst (v := 2) hx hb dX9_filled_279 (by decide) ?_
        refine lv_iadd hx hb dX9_filled_280 ?_
        refine lv_aload_n hx hb dX9_filled_281 rfl (lv_at hl 0 rfl) ?_
        refine va_get (ci := 9) (v := .int msw) (C := RX9) (T := TX9) (N := 24) hx hb hts hin9 hown hK hP 0 rfl rfl 19 (by decide) hfl91 (fun _ h9 => h9) rfl dX9_filled_282 ?_
        obtain ⟨hi_16, hF⟩ := gd_in_s hF
        refine va_iast hx hb hK hP hD hS 11 0 rfl rfl hi_16 dX9_filled_285 (fun H locs hP hD hS => ?_)
        have hP : va_P (gD G) vwCl (wMod G h0 qDR qLA qLE qCE qFI qCO qCR qSI qSR qMO qBO qPX qPY qPZ qSX dr bo po msx msy msw tx ty tz DR LA LE CE FI CO CR SI SR MO (upd (upd (upd mBO (4 * a1).toNatClampNeg msx) ((4 * a1) + 1).toNatClampNeg msy) ((4 * a1) + 2).toNatClampNeg msw) PX PY PZ SX) H := hP
        have hD : va_D A (wMod G h0 qDR qLA qLE qCE qFI qCO qCR qSI qSR qMO qBO qPX qPY qPZ qSX dr bo po msx msy msw tx ty tz DR LA LE CE FI CO CR SI SR MO (upd (upd (upd mBO (4 * a1).toNatClampNeg msx) ((4 * a1) + 1).toNatClampNeg msy) ((4 * a1) + 2).toNatClampNeg msw) PX PY PZ SX) := hD
        refine lv_aload_n hx hb dX9_filled_286 rfl (lv_at hl 0 rfl) ?_
        refine va_get (ci := 9) (v := .ref qBO) (C := RX9) (T := TX9) (N := 24) hx hb hts hin9 hown hK hP 0 rfl rfl 12 (by decide) hfl41 (fun _ h9 => h9) rfl dX9_filled_287 ?_
        refine lv_iconst (v := 4) hx hb dX9_filled_290 (by decide) ?_
        refine lv_iload_n hx hb dX9_filled_291 rfl (lv_at hl 1 rfl) ?_
        refine lv_imul hx hb dX9_filled_292 ?_
        refine lv_iconst (v := 3) hx hb dX9_filled_293 (by decide) ?_
        refine lv_iadd hx hb dX9_filled_294 ?_
        refine lv_iload hx hb dX9_filled_295 (lv_at hl 2 rfl) ?_
        obtain ⟨hi_17, hF⟩ := gd_in_s hF
        refine va_iast hx hb hK hP hD hS 11 0 rfl rfl hi_17 dX9_filled_297 (fun H locs hP hD hS => ?_)
        have hP : va_P (gD G) vwCl (wMod G h0 qDR qLA qLE qCE qFI qCO qCR qSI qSR qMO qBO qPX qPY qPZ qSX dr bo po msx msy msw tx ty tz DR LA LE CE FI CO CR SI SR MO (upd (upd (upd (upd mBO (4 * a1).toNatClampNeg msx) ((4 * a1) + 1).toNatClampNeg msy) ((4 * a1) + 2).toNatClampNeg msw) ((4 * a1) + 3).toNatClampNeg a4) PX PY PZ SX) H := hP
        have hD : va_D A (wMod G h0 qDR qLA qLE qCE qFI qCO qCR qSI qSR qMO qBO qPX qPY qPZ qSX dr bo po msx msy msw tx ty tz DR LA LE CE FI CO CR SI SR MO (upd (upd (upd (upd mBO (4 * a1).toNatClampNeg msx) ((4 * a1) + 1).toNatClampNeg msy) ((4 * a1) + 2).toNatClampNeg msw) ((4 * a1) + 3).toNatClampNeg a4) PX PY PZ SX) := hD
        refine lv_iconst (v := 2) hx hb dX9_filled_298 (by decide) ?_
        exact W.iret (v := 2) hx hb hr  (fun t ht hW => ⟨⟨2, (msx, msy, msw, upd (upd (upd (upd mBO (4 * a1).toNatClampNeg msx) ((4 * a1) + 1).toNatClampNeg msy) ((4 * a1) + 2).toNatClampNeg msw) ((4 * a1) + 3).toNatClampNeg a4), rfl, ⟨congrArg Prod.fst (so_e hF), congrArg Prod.snd (so_e hF)⟩, qW_mk ht hP hK hW hD⟩, hS.F ht⟩) hS.2.2 dX9_filled_299
      · replace hF := it_n c_13 hF
        refine lv_aload_n hx hb dX9_filled_227 rfl (lv_at hl 0 rfl) ?_
        refine lv_iload hx hb dX9_filled_228 (lv_at hl 3 rfl) ?_
        obtain ⟨v_18, hv_18, hF⟩ := bd_s hF
        refine ro_ie (va_runV (As := [.int a5]) (rest := []) ⟨hx, hb, hml, hown, hts⟩ (kX9_along l G h0 qDR qLA qLE qCE qFI qCO qCR qSI qSR qMO qBO qPX qPY qPZ qSX dr bo po msx msy msw tx ty tz DR LA LE CE FI CO CR SI SR MO mBO PX PY PZ SX a5 v_18 hv_18) (cwV 1 hts gX9_filled_X9_along rfl rfl rfl (by decide +kernel) ⟨Nat.le_of_ble_eq_true rfl, Nat.le_of_ble_eq_true rfl⟩) (pvR (q0 := 0) 9 hK (hP.sub (ws' := (wMod G h0 qDR qLA qLE qCE qFI qCO qCR qSI qSR qMO qBO qPX qPY qPZ qSX dr bo po msx msy msw tx ty tz DR LA LE CE FI CO CR SI SR MO mBO PX PY PZ SX)) [0, 1, 2, 3, 4, 5, 6, 7, 8, 9, 10, 11, 12, 13, 14, 15] rfl) rfl rfl) rfl rfl hl.1 rfl (lv_room (Nat.le_of_ble_eq_true rfl)) dX9_filled_230 ⟨Nat.le_of_ble_eq_true rfl, Nat.le_of_ble_eq_true rfl⟩) ?_
        refine lv_iload hx hb dX9_filled_233 (lv_at hl 2 rfl) ?_
        refine lv_icmp_eq (tgt := 240) hx hb dX9_filled_235 (by decide) (fun c_19 => ?_) (fun c_19 => ?_)
        · replace hF := it_p c_19 hF
          refine lv_iinc (v := a5 + 1) (lv' := [(5, .int (a5 + 1)), (0, .ref h0), (1, .int a1), (4, .int a4)]) hx hb dX9_filled_240 hl (k := 3) rfl rfl (by decide) rfl (fun ls hl => ?_)
          refine lv_goto (tgt := 218) hx hb dX9_filled_243 (by decide) ?_
          exact ih a1 a4 (a5 + 1) msx msy msw mBO _ _ _ hF hP hD hS (lv_sub hl [1, 2, 3, 0] rfl)
        · replace hF := it_n c_19 hF
          refine lv_iconst (v := 3) hx hb dX9_filled_238 (by decide) ?_
          exact W.iret (v := 3) hx hb hr  (fun t ht hW => ⟨⟨3, (msx, msy, msw, mBO), rfl, ⟨congrArg Prod.fst (so_e hF), congrArg Prod.snd (so_e hF)⟩, qW_mk ht hP hK hW hD⟩, hS.F ht⟩) hS.2.2 dX9_filled_239
  have hJ208 : ∀ (a1 : Int32) (msx : Int32) (msy : Int32) (msw : Int32) (mBO : Nat → Int32) (H : Heap) (locs : List Loc) (ls : Array Slot), JX9_filled_208 po PX PY PZ a1 msx msy msw mBO = some res → va_P (gD G) vwCl (wMod G h0 qDR qLA qLE qCE qFI qCO qCR qSI qSR qMO qBO qPX qPY qPZ qSX dr bo po msx msy msw tx ty tz DR LA LE CE FI CO CR SI SR MO mBO PX PY PZ SX) H → va_D A (wMod G h0 qDR qLA qLE qCE qFI qCO qCR qSI qSR qMO qBO qPX qPY qPZ qSX dr bo po msx msy msw tx ty tz DR LA LE CE FI CO CR SI SR MO mBO PX PY PZ SX) → va_S A s.heap H locs → lv_has ls 6 [(0, .ref h0), (1, .int a1)] → W p l e (headSpec wsX9_filled rX9_filled).room s m ([.ref h0, .int p1] : List Value).toArray below meth c H locs 0 0 (MQ below (va_Qi (fun (r : Int32) (u : Int32 × Int32 × Int32 × (Nat → Int32)) => r = res.1 ∧ u = res.2) (fun u t => qW G A (wMod G h0 qDR qLA qLE qCE qFI qCO qCR qSI qSR qMO qBO qPX qPY qPZ qSX dr bo po u.1 u.2.1 u.2.2.1 tx ty tz DR LA LE CE FI CO CR SI SR MO u.2.2.2 PX PY PZ SX) t) A) ([.ref h0, .int p1] : List Value).toArray s 0 0 A) (F0 m 208 ls []) := by
    intro a1 msx msy msw mBO H locs ls hF hP hD hS hl
    unfold JX9_filled_208 at hF
    refine lv_aload_n hx hb dX9_filled_208 rfl (lv_at hl 0 rfl) ?_
    refine lv_iconst (v := 0) hx hb dX9_filled_209 (by decide) ?_
    obtain ⟨v_12, hv_12, hF⟩ := bd_s hF
    refine ro_ie (va_runV (As := [.int 0]) (rest := []) ⟨hx, hb, hml, hown, hts⟩ (kX9_along l G h0 qDR qLA qLE qCE qFI qCO qCR qSI qSR qMO qBO qPX qPY qPZ qSX dr bo po msx msy msw tx ty tz DR LA LE CE FI CO CR SI SR MO mBO PX PY PZ SX 0 v_12 hv_12) (cwV 1 hts gX9_filled_X9_along rfl rfl rfl (by decide +kernel) ⟨Nat.le_of_ble_eq_true rfl, Nat.le_of_ble_eq_true rfl⟩) (pvR (q0 := 0) 9 hK (hP.sub (ws' := (wMod G h0 qDR qLA qLE qCE qFI qCO qCR qSI qSR qMO qBO qPX qPY qPZ qSX dr bo po msx msy msw tx ty tz DR LA LE CE FI CO CR SI SR MO mBO PX PY PZ SX)) [0, 1, 2, 3, 4, 5, 6, 7, 8, 9, 10, 11, 12, 13, 14, 15] rfl) rfl rfl) rfl rfl hl.1 rfl (lv_room (Nat.le_of_ble_eq_true rfl)) dX9_filled_210 ⟨Nat.le_of_ble_eq_true rfl, Nat.le_of_ble_eq_true rfl⟩) ?_
    refine lv_istore (lv' := [(4, .int v_12), (0, .ref h0), (1, .int a1)]) hx hb dX9_filled_213 hl (by decide) rfl (fun ls hl => ?_)
    refine lv_iconst (v := 0) hx hb dX9_filled_215 (by decide) ?_
    refine lv_istore (lv' := [(5, .int 0), (4, .int v_12), (0, .ref h0), (1, .int a1)]) hx hb dX9_filled_216 hl (by decide) rfl (fun ls hl => ?_)
    exact hL218 FU a1 v_12 0 msx msy msw mBO _ _ _ hF hP hD hS (lv_sub hl [2, 3, 1, 0] rfl)
  have hJ176 : ∀ (a1 : Int32) (t0 : Int32) (msx : Int32) (msy : Int32) (msw : Int32) (mBO : Nat → Int32) (H : Heap) (locs : List Loc) (ls : Array Slot), JX9_filled_176 po PX PY PZ a1 t0 msx msy msw mBO = some res → va_P (gD G) vwCl (wMod G h0 qDR qLA qLE qCE qFI qCO qCR qSI qSR qMO qBO qPX qPY qPZ qSX dr bo po msx msy msw tx ty tz DR LA LE CE FI CO CR SI SR MO mBO PX PY PZ SX) H → va_D A (wMod G h0 qDR qLA qLE qCE qFI qCO qCR qSI qSR qMO qBO qPX qPY qPZ qSX dr bo po msx msy msw tx ty tz DR LA LE CE FI CO CR SI SR MO mBO PX PY PZ SX) → va_S A s.heap H locs → lv_has ls 6 [(0, .ref h0), (1, .int a1)] → W p l e (headSpec wsX9_filled rX9_filled).room s m ([.ref h0, .int p1] : List Value).toArray below meth c H locs 0 0 (MQ below (va_Qi (fun (r : Int32) (u : Int32 × Int32 × Int32 × (Nat → Int32)) => r = res.1 ∧ u = res.2) (fun u t => qW G A (wMod G h0 qDR qLA qLE qCE qFI qCO qCR qSI qSR qMO qBO qPX qPY qPZ qSX dr bo po u.1 u.2.1 u.2.2.1 tx ty tz DR LA LE CE FI CO CR SI SR MO u.2.2.2 PX PY PZ SX) t) A) ([.ref h0, .int p1] : List Value).toArray s 0 0 A) (F0 m 176 ls [.int t0]) := by
    intro a1 t0 msx msy msw mBO H locs ls hF hP hD hS hl
    unfold JX9_filled_176 at hF
    refine lv_istore_n (lv' := [(3, .int t0), (0, .ref h0), (1, .int a1)]) hx hb dX9_filled_176 rfl hl (by decide) rfl (fun ls hl => ?_)
    refine lv_iload_n hx hb dX9_filled_177 rfl (lv_at hl 0 rfl) ?_
    refine lv_if_eq (tgt := 208) hx hb dX9_filled_178 (by decide) (fun c_11 => ?_) (fun c_11 => ?_)
    · replace hF := it_p c_11 hF
      exact hJ208 a1 msx msy msw mBO _ _ _ hF hP hD hS (lv_sub hl [1, 2] rfl)
    · replace hF := it_n c_11 hF
      refine lv_aload_n hx hb dX9_filled_181 rfl (lv_at hl 1 rfl) ?_
      refine lv_aload_n hx hb dX9_filled_182 rfl (lv_at hl 1 rfl) ?_
      refine va_get (ci := 9) (v := .int msx) (C := RX9) (T := TX9) (N := 24) hx hb hts hin9 hown hK hP 0 rfl rfl 17 (by decide) hfl85 (fun _ h9 => h9) rfl dX9_filled_183 ?_
      refine lv_ineg hx hb dX9_filled_186 ?_
      refine va_put (ci := 9) (v := .int (-msx)) (ty := .int) (C := RX9) (T := TX9) (N := 24) hx hb hts hin9 tyX9 tyX9_ok nmX9 hown hK hP hD hS 0 rfl rfl 17 (by decide) hfl85 (fun _ h9 => h9) rfl (by decide +kernel) rfl rfl (Nat.le_of_ble_eq_true rfl) dX9_filled_187 (fun H locs hP hD hS => ?_)
      have hP : va_P (gD G) vwCl (wMod G h0 qDR qLA qLE qCE qFI qCO qCR qSI qSR qMO qBO qPX qPY qPZ qSX dr bo po (-msx) msy msw tx ty tz DR LA LE CE FI CO CR SI SR MO mBO PX PY PZ SX) H := hP
      have hD : va_D A (wMod G h0 qDR qLA qLE qCE qFI qCO qCR qSI qSR qMO qBO qPX qPY qPZ qSX dr bo po (-msx) msy msw tx ty tz DR LA LE CE FI CO CR SI SR MO mBO PX PY PZ SX) := hD
      refine lv_aload_n hx hb dX9_filled_190 rfl (lv_at hl 1 rfl) ?_
      refine lv_aload_n hx hb dX9_filled_191 rfl (lv_at hl 1 rfl) ?_
      refine va_get (ci := 9) (v := .int msy) (C := RX9) (T := TX9) (N := 24) hx hb hts hin9 hown hK hP 0 rfl rfl 18 (by decide) hfl88 (fun _ h9 => h9) rfl dX9_filled_192 ?_
      refine lv_ineg hx hb dX9_filled_195 ?_
      refine va_put (ci := 9) (v := .int (-msy)) (ty := .int) (C := RX9) (T := TX9) (N := 24) hx hb hts hin9 tyX9 tyX9_ok nmX9 hown hK hP hD hS 0 rfl rfl 18 (by decide) hfl88 (fun _ h9 => h9) rfl (by decide +kernel) rfl rfl (Nat.le_of_ble_eq_true rfl) dX9_filled_196 (fun H locs hP hD hS => ?_)
      have hP : va_P (gD G) vwCl (wMod G h0 qDR qLA qLE qCE qFI qCO qCR qSI qSR qMO qBO qPX qPY qPZ qSX dr bo po (-msx) (-msy) msw tx ty tz DR LA LE CE FI CO CR SI SR MO mBO PX PY PZ SX) H := hP
      have hD : va_D A (wMod G h0 qDR qLA qLE qCE qFI qCO qCR qSI qSR qMO qBO qPX qPY qPZ qSX dr bo po (-msx) (-msy) msw tx ty tz DR LA LE CE FI CO CR SI SR MO mBO PX PY PZ SX) := hD
      refine lv_aload_n hx hb dX9_filled_199 rfl (lv_at hl 1 rfl) ?_
      refine lv_aload_n hx hb dX9_filled_200 rfl (lv_at hl 1 rfl) ?_
      refine va_get (ci := 9) (v := .int msw) (C := RX9) (T := TX9) (N := 24) hx hb hts hin9 hown hK hP 0 rfl rfl 19 (by decide) hfl91 (fun _ h9 => h9) rfl dX9_filled_201 ?_
      refine lv_ineg hx hb dX9_filled_204 ?_
      refine va_put (ci := 9) (v := .int (-msw)) (ty := .int) (C := RX9) (T := TX9) (N := 24) hx hb hts hin9 tyX9 tyX9_ok nmX9 hown hK hP hD hS 0 rfl rfl 19 (by decide) hfl91 (fun _ h9 => h9) rfl (by decide +kernel) rfl rfl (Nat.le_of_ble_eq_true rfl) dX9_filled_205 (fun H locs hP hD hS => ?_)
      have hP : va_P (gD G) vwCl (wMod G h0 qDR qLA qLE qCE qFI qCO qCR qSI qSR qMO qBO qPX qPY qPZ qSX dr bo po (-msx) (-msy) (-msw) tx ty tz DR LA LE CE FI CO CR SI SR MO mBO PX PY PZ SX) H := hP
      have hD : va_D A (wMod G h0 qDR qLA qLE qCE qFI qCO qCR qSI qSR qMO qBO qPX qPY qPZ qSX dr bo po (-msx) (-msy) (-msw) tx ty tz DR LA LE CE FI CO CR SI SR MO mBO PX PY PZ SX) := hD
      exact hJ208 a1 (-msx) (-msy) (-msw) mBO _ _ _ hF hP hD hS (lv_sub hl [1, 2] rfl)
  have hJ171 : ∀ (a1 : Int32) (msx : Int32) (msy : Int32) (msw : Int32) (mBO : Nat → Int32) (H : Heap) (locs : List Loc) (ls : Array Slot), JX9_filled_171 po PX PY PZ a1 msx msy msw mBO = some res → va_P (gD G) vwCl (wMod G h0 qDR qLA qLE qCE qFI qCO qCR qSI qSR qMO qBO qPX qPY qPZ qSX dr bo po msx msy msw tx ty tz DR LA LE CE FI CO CR SI SR MO mBO PX PY PZ SX) H → va_D A (wMod G h0 qDR qLA qLE qCE qFI qCO qCR qSI qSR qMO qBO qPX qPY qPZ qSX dr bo po msx msy msw tx ty tz DR LA LE CE FI CO CR SI SR MO mBO PX PY PZ SX) → va_S A s.heap H locs → lv_has ls 6 [(0, .ref h0), (1, .int a1)] → W p l e (headSpec wsX9_filled rX9_filled).room s m ([.ref h0, .int p1] : List Value).toArray below meth c H locs 0 0 (MQ below (va_Qi (fun (r : Int32) (u : Int32 × Int32 × Int32 × (Nat → Int32)) => r = res.1 ∧ u = res.2) (fun u t => qW G A (wMod G h0 qDR qLA qLE qCE qFI qCO qCR qSI qSR qMO qBO qPX qPY qPZ qSX dr bo po u.1 u.2.1 u.2.2.1 tx ty tz DR LA LE CE FI CO CR SI SR MO u.2.2.2 PX PY PZ SX) t) A) ([.ref h0, .int p1] : List Value).toArray s 0 0 A) (F0 m 171 ls []) := by
    intro a1 msx msy msw mBO H locs ls hF hP hD hS hl
    unfold JX9_filled_171 at hF
    refine lv_iconst (v := 1) hx hb dX9_filled_171 (by decide) ?_
    refine lv_goto (tgt := 176) hx hb dX9_filled_172 (by decide) ?_
    exact hJ176 a1 1 msx msy msw mBO _ _ _ hF hP hD hS (lv_sub hl [0, 1] rfl)
  have hJ175 : ∀ (a1 : Int32) (msx : Int32) (msy : Int32) (msw : Int32) (mBO : Nat → Int32) (H : Heap) (locs : List Loc) (ls : Array Slot), JX9_filled_175 po PX PY PZ a1 msx msy msw mBO = some res → va_P (gD G) vwCl (wMod G h0 qDR qLA qLE qCE qFI qCO qCR qSI qSR qMO qBO qPX qPY qPZ qSX dr bo po msx msy msw tx ty tz DR LA LE CE FI CO CR SI SR MO mBO PX PY PZ SX) H → va_D A (wMod G h0 qDR qLA qLE qCE qFI qCO qCR qSI qSR qMO qBO qPX qPY qPZ qSX dr bo po msx msy msw tx ty tz DR LA LE CE FI CO CR SI SR MO mBO PX PY PZ SX) → va_S A s.heap H locs → lv_has ls 6 [(0, .ref h0), (1, .int a1)] → W p l e (headSpec wsX9_filled rX9_filled).room s m ([.ref h0, .int p1] : List Value).toArray below meth c H locs 0 0 (MQ below (va_Qi (fun (r : Int32) (u : Int32 × Int32 × Int32 × (Nat → Int32)) => r = res.1 ∧ u = res.2) (fun u t => qW G A (wMod G h0 qDR qLA qLE qCE qFI qCO qCR qSI qSR qMO qBO qPX qPY qPZ qSX dr bo po u.1 u.2.1 u.2.2.1 tx ty tz DR LA LE CE FI CO CR SI SR MO u.2.2.2 PX PY PZ SX) t) A) ([.ref h0, .int p1] : List Value).toArray s 0 0 A) (F0 m 175 ls []) := by
    intro a1 msx msy msw mBO H locs ls hF hP hD hS hl
    unfold JX9_filled_175 at hF
    refine lv_iconst (v := 0) hx hb dX9_filled_175 (by decide) ?_
    exact hJ176 a1 0 msx msy msw mBO _ _ _ hF hP hD hS (lv_sub hl [0, 1] rfl)
  have hJ126 : ∀ (a1 : Int32) (a2 : Int32) (msx : Int32) (msy : Int32) (msw : Int32) (mBO : Nat → Int32) (H : Heap) (locs : List Loc) (ls : Array Slot), JX9_filled_126 po PX PY PZ a1 a2 msx msy msw mBO = some res → va_P (gD G) vwCl (wMod G h0 qDR qLA qLE qCE qFI qCO qCR qSI qSR qMO qBO qPX qPY qPZ qSX dr bo po msx msy msw tx ty tz DR LA LE CE FI CO CR SI SR MO mBO PX PY PZ SX) H → va_D A (wMod G h0 qDR qLA qLE qCE qFI qCO qCR qSI qSR qMO qBO qPX qPY qPZ qSX dr bo po msx msy msw tx ty tz DR LA LE CE FI CO CR SI SR MO mBO PX PY PZ SX) → va_S A s.heap H locs → lv_has ls 6 [(0, .ref h0), (1, .int a1), (2, .int a2)] → W p l e (headSpec wsX9_filled rX9_filled).room s m ([.ref h0, .int p1] : List Value).toArray below meth c H locs 0 0 (MQ below (va_Qi (fun (r : Int32) (u : Int32 × Int32 × Int32 × (Nat → Int32)) => r = res.1 ∧ u = res.2) (fun u t => qW G A (wMod G h0 qDR qLA qLE qCE qFI qCO qCR qSI qSR qMO qBO qPX qPY qPZ qSX dr bo po u.1 u.2.1 u.2.2.1 tx ty tz DR LA LE CE FI CO CR SI SR MO u.2.2.2 PX PY PZ SX) t) A) ([.ref h0, .int p1] : List Value).toArray s 0 0 A) (F0 m 126 ls []) := by
    intro a1 a2 msx msy msw mBO H locs ls hF hP hD hS hl
    unfold JX9_filled_126 at hF
    refine lv_iload_n hx hb dX9_filled_126 rfl (lv_at hl 2 rfl) ?_
    refine lv_aload_n hx hb dX9_filled_127 rfl (lv_at hl 0 rfl) ?_
    refine va_get (ci := 9) (v := .int po) (C := RX9) (T := TX9) (N := 24) hx hb hts hin9 hown hK hP 0 rfl rfl 13 (by decide) hfl74 (fun _ h9 => h9) rfl dX9_filled_128 ?_
    refine lv_icmp_ne (tgt := 136) hx hb dX9_filled_131 (by decide) (fun c_9 => ?_) (fun c_9 => ?_)
    · replace hF := it_n c_9 hF
      refine lv_aload_n hx hb dX9_filled_136 rfl (lv_at hl 0 rfl) ?_
      refine va_get (ci := 9) (v := .int msx) (C := RX9) (T := TX9) (N := 24) hx hb hts hin9 hown hK hP 0 rfl rfl 17 (by decide) hfl85 (fun _ h9 => h9) rfl dX9_filled_137 ?_
      refine lv_if_lt (tgt := 171) hx hb dX9_filled_140 (by decide) (fun c_10 => ?_) (fun c_10 => ?_)
      · replace hF := it_p c_10 hF
        exact hJ171 a1 msx msy msw mBO _ _ _ hF hP hD hS (lv_sub hl [0, 1] rfl)
      · replace hF := it_n c_10 hF
        refine lv_aload_n hx hb dX9_filled_143 rfl (lv_at hl 0 rfl) ?_
        refine va_get (ci := 9) (v := .int msx) (C := RX9) (T := TX9) (N := 24) hx hb hts hin9 hown hK hP 0 rfl rfl 17 (by decide) hfl85 (fun _ h9 => h9) rfl dX9_filled_144 ?_
        refine lv_if_ne (tgt := 175) hx hb dX9_filled_147 (by decide) (fun c_20 => ?_) (fun c_20 => ?_)
        · replace hF := it_n c_20 hF
          exact hJ175 a1 msx msy msw mBO _ _ _ hF hP hD hS (lv_sub hl [0, 1] rfl)
        · replace hF := it_p c_20 hF
          refine lv_aload_n hx hb dX9_filled_150 rfl (lv_at hl 0 rfl) ?_
          refine va_get (ci := 9) (v := .int msy) (C := RX9) (T := TX9) (N := 24) hx hb hts hin9 hown hK hP 0 rfl rfl 18 (by decide) hfl88 (fun _ h9 => h9) rfl dX9_filled_151 ?_
          refine lv_if_lt (tgt := 171) hx hb dX9_filled_154 (by decide) (fun c_21 => ?_) (fun c_21 => ?_)
          · replace hF := it_p c_21 hF
            exact hJ171 a1 msx msy msw mBO _ _ _ hF hP hD hS (lv_sub hl [0, 1] rfl)
          · replace hF := it_n c_21 hF
            refine lv_aload_n hx hb dX9_filled_157 rfl (lv_at hl 0 rfl) ?_
            refine va_get (ci := 9) (v := .int msy) (C := RX9) (T := TX9) (N := 24) hx hb hts hin9 hown hK hP 0 rfl rfl 18 (by decide) hfl88 (fun _ h9 => h9) rfl dX9_filled_158 ?_
            refine lv_if_ne (tgt := 175) hx hb dX9_filled_161 (by decide) (fun c_22 => ?_) (fun c_22 => ?_)
            · replace hF := it_n c_22 hF
              exact hJ175 a1 msx msy msw mBO _ _ _ hF hP hD hS (lv_sub hl [0, 1] rfl)
            · replace hF := it_p c_22 hF
              refine lv_aload_n hx hb dX9_filled_164 rfl (lv_at hl 0 rfl) ?_
              refine va_get (ci := 9) (v := .int msw) (C := RX9) (T := TX9) (N := 24) hx hb hts hin9 hown hK hP 0 rfl rfl 19 (by decide) hfl91 (fun _ h9 => h9) rfl dX9_filled_165 ?_
              refine lv_if_ge (tgt := 175) hx hb dX9_filled_168 (by decide) (fun c_23 => ?_) (fun c_23 => ?_)
              · replace hF := it_p c_23 hF
                exact hJ175 a1 msx msy msw mBO _ _ _ hF hP hD hS (lv_sub hl [0, 1] rfl)
              · replace hF := it_n c_23 hF
                exact hJ171 a1 msx msy msw mBO _ _ _ hF hP hD hS (lv_sub hl [0, 1] rfl)
    · replace hF := it_p c_9 hF
      refine lv_iconst (v := 1) hx hb dX9_filled_134 (by decide) ?_
      exact W.iret (v := 1) hx hb hr  (fun t ht hW => ⟨⟨1, (msx, msy, msw, mBO), rfl, ⟨congrArg Prod.fst (so_e hF), congrArg Prod.snd (so_e hF)⟩, qW_mk ht hP hK hW hD⟩, hS.F ht⟩) hS.2.2 dX9_filled_135
  have hL95 : ∀ (k : Nat), ∀ (a1 : Int32) (a2 : Int32) (msx : Int32) (msy : Int32) (msw : Int32) (mBO : Nat → Int32) (H : Heap) (locs : List Loc) (ls : Array Slot), LX9_filled_95 po PX PY PZ k a1 a2 msx msy msw mBO = some res → va_P (gD G) vwCl (wMod G h0 qDR qLA qLE qCE qFI qCO qCR qSI qSR qMO qBO qPX qPY qPZ qSX dr bo po msx msy msw tx ty tz DR LA LE CE FI CO CR SI SR MO mBO PX PY PZ SX) H → va_D A (wMod G h0 qDR qLA qLE qCE qFI qCO qCR qSI qSR qMO qBO qPX qPY qPZ qSX dr bo po msx msy msw tx ty tz DR LA LE CE FI CO CR SI SR MO mBO PX PY PZ SX) → va_S A s.heap H locs → lv_has ls 6 [(0, .ref h0), (1, .int a1), (2, .int a2)] → W p l e (headSpec wsX9_filled rX9_filled).room s m ([.ref h0, .int p1] : List Value).toArray below meth c H locs 0 0 (MQ below (va_Qi (fun (r : Int32) (u : Int32 × Int32 × Int32 × (Nat → Int32)) => r = res.1 ∧ u = res.2) (fun u t => qW G A (wMod G h0 qDR qLA qLE qCE qFI qCO qCR qSI qSR qMO qBO qPX qPY qPZ qSX dr bo po u.1 u.2.1 u.2.2.1 tx ty tz DR LA LE CE FI CO CR SI SR MO u.2.2.2 PX PY PZ SX) t) A) ([.ref h0, .int p1] : List Value).toArray s 0 0 A) (F0 m 95 ls []) := by
    intro k
    induction k with
    | zero =>
      intro a1 a2 msx msy msw mBO H locs ls hF hP hD hS hl
      rw [LX9_filled_95] at hF
      cases hF
    | succ k ih =>
      intro a1 a2 msx msy msw mBO H locs ls hF hP hD hS hl
      rw [LX9_filled_95] at hF
      refine lv_iload_n hx hb dX9_filled_95 rfl (lv_at hl 2 rfl) ?_
      refine lv_aload_n hx hb dX9_filled_96 rfl (lv_at hl 0 rfl) ?_
      refine va_get (ci := 9) (v := .int po) (C := RX9) (T := TX9) (N := 24) hx hb hts hin9 hown hK hP 0 rfl rfl 13 (by decide) hfl74 (fun _ h9 => h9) rfl dX9_filled_97 ?_
      refine lv_icmp_ge (tgt := 126) hx hb dX9_filled_100 (by decide) (fun c_8 => ?_) (fun c_8 => ?_)
      · replace hF := it_p c_8 hF
        exact hJ126 a1 a2 msx msy msw mBO _ _ _ hF hP hD hS (lv_sub hl [0, 1, 2] rfl)
      · replace hF := it_n c_8 hF
        refine lv_aload_n hx hb dX9_filled_103 rfl (lv_at hl 0 rfl) ?_
        refine lv_iconst (v := 0) hx hb dX9_filled_104 (by decide) ?_
        refine lv_iconst (v := 1) hx hb dX9_filled_105 (by decide) ?_
        refine lv_iload_n hx hb dX9_filled_106 rfl (lv_at hl 2 rfl) ?_
        obtain ⟨v_24, hv_24, hF⟩ := bd_s hF
        refine rw_ve (wf := (fun (u : Int32 × Int32 × Int32) => (wMod G h0 qDR qLA qLE qCE qFI qCO qCR qSI qSR qMO qBO qPX qPY qPZ qSX dr bo po u.1 u.2.1 u.2.2 tx ty tz DR LA LE CE FI CO CR SI SR MO mBO PX PY PZ SX))) (wr := []) (va_runV (As := [.int 0, .int 1, .int a2]) (rest := []) ⟨hx, hb, hml, hown, hts⟩ (kX9_planeOf l G h0 qDR qLA qLE qCE qFI qCO qCR qSI qSR qMO qBO qPX qPY qPZ qSX H.size dr bo po msx msy msw tx ty tz DR LA LE CE FI CO CR SI SR MO mBO PX PY PZ SX 0 1 a2 v_24 hv_24) (cwV 3 hts gX9_filled_X9_planeOf rfl rfl rfl (by decide +kernel) ⟨Nat.le_of_ble_eq_true rfl, Nat.le_of_ble_eq_true rfl⟩) (pvW (q0 := 0) 9 hK (hP.sub (ws' := (wMod G h0 qDR qLA qLE qCE qFI qCO qCR qSI qSR qMO qBO qPX qPY qPZ qSX dr bo po msx msy msw tx ty tz DR LA LE CE FI CO CR SI SR MO mBO PX PY PZ SX)) [0, 1, 2, 3, 4, 5, 6, 7, 8, 9, 10, 11, 12, 13, 14, 15] rfl) (hD.sub (ws' := (wMod G h0 qDR qLA qLE qCE qFI qCO qCR qSI qSR qMO qBO qPX qPY qPZ qSX dr bo po msx msy msw tx ty tz DR LA LE CE FI CO CR SI SR MO mBO PX PY PZ SX)) [0, 1, 2, 3, 4, 5, 6, 7, 8, 9, 10, 11, 12, 13, 14, 15] (by decide) rfl) rfl rfl) rfl rfl hl.1 rfl (lv_room (Nat.le_of_ble_eq_true rfl)) dX9_filled_107 ⟨Nat.le_of_ble_eq_true rfl, Nat.le_of_ble_eq_true rfl⟩) hP hD hS hA [0, 1, 2, 3, 4, 5, 6, 7, 8, 9, 10, 11, 12, 13, 14, 15] [] rfl rfl (by decide) (by decide) (fun H locs  hP hD hS => ?_)
        have hP : va_P (gD G) vwCl (wMod G h0 qDR qLA qLE qCE qFI qCO qCR qSI qSR qMO qBO qPX qPY qPZ qSX dr bo po v_24.1 v_24.2.1 v_24.2.2 tx ty tz DR LA LE CE FI CO CR SI SR MO mBO PX PY PZ SX) H := hP.sub [0, 1, 2, 3, 4, 5, 6, 7, 8, 9, 10, 11, 12, 13, 14, 15] rfl
        have hD : va_D A (wMod G h0 qDR qLA qLE qCE qFI qCO qCR qSI qSR qMO qBO qPX qPY qPZ qSX dr bo po v_24.1 v_24.2.1 v_24.2.2 tx ty tz DR LA LE CE FI CO CR SI SR MO mBO PX PY PZ SX) := hD.sub [0, 1, 2, 3, 4, 5, 6, 7, 8, 9, 10, 11, 12, 13, 14, 15] (by decide) rfl
        refine lv_aload_n hx hb dX9_filled_110 rfl (lv_at hl 0 rfl) ?_
        obtain ⟨v_25, hv_25, hF⟩ := bd_s hF
        refine ro_ze (va_runV (As := []) (rest := []) ⟨hx, hb, hml, hown, hts⟩ (kX9_isNought l G h0 qDR qLA qLE qCE qFI qCO qCR qSI qSR qMO qBO qPX qPY qPZ qSX dr bo po v_24.1 v_24.2.1 v_24.2.2 tx ty tz DR LA LE CE FI CO CR SI SR MO mBO PX PY PZ SX v_25 hv_25) (cwV 0 hts gX9_filled_X9_isNought rfl rfl rfl (by decide +kernel) ⟨Nat.le_of_ble_eq_true rfl, Nat.le_of_ble_eq_true rfl⟩) (pvR (q0 := 0) 9 hK (hP.sub (ws' := (wMod G h0 qDR qLA qLE qCE qFI qCO qCR qSI qSR qMO qBO qPX qPY qPZ qSX dr bo po v_24.1 v_24.2.1 v_24.2.2 tx ty tz DR LA LE CE FI CO CR SI SR MO mBO PX PY PZ SX)) [0, 1, 2, 3, 4, 5, 6, 7, 8, 9, 10, 11, 12, 13, 14, 15] rfl) rfl rfl) rfl rfl hl.1 rfl (lv_room (Nat.le_of_ble_eq_true rfl)) dX9_filled_111 ⟨Nat.le_of_ble_eq_true rfl, Nat.le_of_ble_eq_true rfl⟩) (fun hb_26 => ?_)
        refine lv_if_ne (tgt := 120) hx hb dX9_filled_114 (by decide) (fun c_27 => ?_) (fun c_27 => ?_)
        · replace hF := it_n c_27 hF
          refine lv_iinc (v := a2 + 1) (lv' := [(2, .int (a2 + 1)), (0, .ref h0), (1, .int a1)]) hx hb dX9_filled_120 hl (k := 2) rfl rfl (by decide) rfl (fun ls hl => ?_)
          refine lv_goto (tgt := 95) hx hb dX9_filled_123 (by decide) ?_
          exact ih a1 (a2 + 1) v_24.1 v_24.2.1 v_24.2.2 mBO _ _ _ hF hP hD hS (lv_sub hl [1, 2, 0] rfl)
        · replace hF := it_p c_27 hF
          refine lv_goto (tgt := 126) hx hb dX9_filled_117 (by decide) ?_
          exact hJ126 a1 a2 v_24.1 v_24.2.1 v_24.2.2 mBO _ _ _ hF hP hD hS (lv_sub hl [0, 1, 2] rfl)
  unfold fX9_filled at hF
  refine lv_aload_n hx hb dX9_filled_0 rfl (lv_at hl 0 rfl) ?_
  refine va_get (ci := 9) (v := .int po) (C := RX9) (T := TX9) (N := 24) hx hb hts hin9 hown hK hP 0 rfl rfl 13 (by decide) hfl74 (fun _ h9 => h9) rfl dX9_filled_1 ?_
  refine lv_iconst (v := 1) hx hb dX9_filled_4 (by decide) ?_
  refine lv_icmp_ne (tgt := 10) hx hb dX9_filled_5 (by decide) (fun c_1 => ?_) (fun c_1 => ?_)
  · replace hF := it_n c_1 hF
    refine lv_aload_n hx hb dX9_filled_10 rfl (lv_at hl 0 rfl) ?_
    refine lv_aload_n hx hb dX9_filled_11 rfl (lv_at hl 0 rfl) ?_
    refine va_get (ci := 9) (v := .ref qPX) (C := RX9) (T := TX9) (N := 24) hx hb hts hin9 hown hK hP 0 rfl rfl 14 (by decide) hfl44 (fun _ h9 => h9) rfl dX9_filled_12 ?_
    refine lv_iconst (v := 1) hx hb dX9_filled_15 (by decide) ?_
    obtain ⟨hi_2, hF⟩ := gd_in_s hF
    refine va_iald hx hb hK hP 12 0 rfl rfl hi_2 dX9_filled_16 ?_
    refine lv_aload_n hx hb dX9_filled_17 rfl (lv_at hl 0 rfl) ?_
    refine va_get (ci := 9) (v := .ref qPX) (C := RX9) (T := TX9) (N := 24) hx hb hts hin9 hown hK hP 0 rfl rfl 14 (by decide) hfl44 (fun _ h9 => h9) rfl dX9_filled_18 ?_
    refine lv_iconst (v := 0) hx hb dX9_filled_21 (by decide) ?_
    obtain ⟨hi_3, hF⟩ := gd_in_s hF
    refine va_iald hx hb hK hP 12 0 rfl rfl hi_3 dX9_filled_22 ?_
    refine lv_isub hx hb dX9_filled_23 ?_
    refine lv_aload_n hx hb dX9_filled_24 rfl (lv_at hl 0 rfl) ?_
    refine va_get (ci := 9) (v := .ref qPY) (C := RX9) (T := TX9) (N := 24) hx hb hts hin9 hown hK hP 0 rfl rfl 15 (by decide) hfl47 (fun _ h9 => h9) rfl dX9_filled_25 ?_
    refine lv_iconst (v := 1) hx hb dX9_filled_28 (by decide) ?_
    refine va_iald hx hb hK hP 13 0 rfl rfl hi_2 dX9_filled_29 ?_
    refine lv_aload_n hx hb dX9_filled_30 rfl (lv_at hl 0 rfl) ?_
    refine va_get (ci := 9) (v := .ref qPY) (C := RX9) (T := TX9) (N := 24) hx hb hts hin9 hown hK hP 0 rfl rfl 15 (by decide) hfl47 (fun _ h9 => h9) rfl dX9_filled_31 ?_
    refine lv_iconst (v := 0) hx hb dX9_filled_34 (by decide) ?_
    refine va_iald hx hb hK hP 13 0 rfl rfl hi_3 dX9_filled_35 ?_
    refine lv_isub hx hb dX9_filled_36 ?_
    refine lv_aload_n hx hb dX9_filled_37 rfl (lv_at hl 0 rfl) ?_
    refine va_get (ci := 9) (v := .ref qPZ) (C := RX9) (T := TX9) (N := 24) hx hb hts hin9 hown hK hP 0 rfl rfl 16 (by decide) hfl50 (fun _ h9 => h9) rfl dX9_filled_38 ?_
    refine lv_iconst (v := 1) hx hb dX9_filled_41 (by decide) ?_
    refine va_iald hx hb hK hP 14 0 rfl rfl hi_2 dX9_filled_42 ?_
    refine lv_aload_n hx hb dX9_filled_43 rfl (lv_at hl 0 rfl) ?_
    refine va_get (ci := 9) (v := .ref qPZ) (C := RX9) (T := TX9) (N := 24) hx hb hts hin9 hown hK hP 0 rfl rfl 16 (by decide) hfl50 (fun _ h9 => h9) rfl dX9_filled_44 ?_
    refine lv_iconst (v := 0) hx hb dX9_filled_47 (by decide) ?_
    refine va_iald hx hb hK hP 14 0 rfl rfl hi_3 dX9_filled_48 ?_
    refine lv_isub hx hb dX9_filled_49 ?_
    obtain ⟨v_4, hv_4, hF⟩ := bd_s hF
    refine rw_ve (wf := (fun (u : Int32 × Int32 × Int32) => (wMod G h0 qDR qLA qLE qCE qFI qCO qCR qSI qSR qMO qBO qPX qPY qPZ qSX dr bo po u.1 u.2.1 u.2.2 tx ty tz DR LA LE CE FI CO CR SI SR MO BO PX PY PZ SX))) (wr := []) (va_runV (As := [.int ((PX (1 : Int32).toNatClampNeg) - (PX (0 : Int32).toNatClampNeg)), .int ((PY (1 : Int32).toNatClampNeg) - (PY (0 : Int32).toNatClampNeg)), .int ((PZ (1 : Int32).toNatClampNeg) - (PZ (0 : Int32).toNatClampNeg))]) (rest := []) ⟨hx, hb, hml, hown, hts⟩ (kX9_step l G h0 qDR qLA qLE qCE qFI qCO qCR qSI qSR qMO qBO qPX qPY qPZ qSX s.heap.size dr bo po sx sy sw tx ty tz DR LA LE CE FI CO CR SI SR MO BO PX PY PZ SX ((PX (1 : Int32).toNatClampNeg) - (PX (0 : Int32).toNatClampNeg)) ((PY (1 : Int32).toNatClampNeg) - (PY (0 : Int32).toNatClampNeg)) ((PZ (1 : Int32).toNatClampNeg) - (PZ (0 : Int32).toNatClampNeg)) v_4 hv_4) (cwV 3 hts gX9_filled_X9_step rfl rfl rfl (by decide +kernel) ⟨Nat.le_of_ble_eq_true rfl, Nat.le_of_ble_eq_true rfl⟩) (pvW (q0 := 0) 9 hK (hP.sub (ws' := (wMod G h0 qDR qLA qLE qCE qFI qCO qCR qSI qSR qMO qBO qPX qPY qPZ qSX dr bo po sx sy sw tx ty tz DR LA LE CE FI CO CR SI SR MO BO PX PY PZ SX)) [0, 1, 2, 3, 4, 5, 6, 7, 8, 9, 10, 11, 12, 13, 14, 15] rfl) (hD.sub (ws' := (wMod G h0 qDR qLA qLE qCE qFI qCO qCR qSI qSR qMO qBO qPX qPY qPZ qSX dr bo po sx sy sw tx ty tz DR LA LE CE FI CO CR SI SR MO BO PX PY PZ SX)) [0, 1, 2, 3, 4, 5, 6, 7, 8, 9, 10, 11, 12, 13, 14, 15] (by decide) rfl) rfl rfl) rfl rfl hl.1 rfl (lv_room (Nat.le_of_ble_eq_true rfl)) dX9_filled_50 ⟨Nat.le_of_ble_eq_true rfl, Nat.le_of_ble_eq_true rfl⟩) hP hD hS hA [0, 1, 2, 3, 4, 5, 6, 7, 8, 9, 10, 11, 12, 13, 14, 15] [] rfl rfl (by decide) (by decide) (fun H locs  hP hD hS => ?_)
    have hP : va_P (gD G) vwCl (wMod G h0 qDR qLA qLE qCE qFI qCO qCR qSI qSR qMO qBO qPX qPY qPZ qSX dr bo po v_4.1 v_4.2.1 v_4.2.2 tx ty tz DR LA LE CE FI CO CR SI SR MO BO PX PY PZ SX) H := hP.sub [0, 1, 2, 3, 4, 5, 6, 7, 8, 9, 10, 11, 12, 13, 14, 15] rfl
    have hD : va_D A (wMod G h0 qDR qLA qLE qCE qFI qCO qCR qSI qSR qMO qBO qPX qPY qPZ qSX dr bo po v_4.1 v_4.2.1 v_4.2.2 tx ty tz DR LA LE CE FI CO CR SI SR MO BO PX PY PZ SX) := hD.sub [0, 1, 2, 3, 4, 5, 6, 7, 8, 9, 10, 11, 12, 13, 14, 15] (by decide) rfl
    refine lv_aload_n hx hb dX9_filled_53 rfl (lv_at hl 0 rfl) ?_
    refine va_get (ci := 9) (v := .ref qBO) (C := RX9) (T := TX9) (N := 24) hx hb hts hin9 hown hK hP 0 rfl rfl 12 (by decide) hfl41 (fun _ h9 => h9) rfl dX9_filled_54 ?_
    refine lv_iconst (v := 4) hx hb dX9_filled_57 (by decide) ?_
    refine lv_iload_n hx hb dX9_filled_58 rfl (lv_at hl 1 rfl) ?_
    refine lv_imul hx hb dX9_filled_59 ?_
    refine lv_aload_n hx hb dX9_filled_60 rfl (lv_at hl 0 rfl) ?_
    refine va_get (ci := 9) (v := .int v_4.1) (C := RX9) (T := TX9) (N := 24) hx hb hts hin9 hown hK hP 0 rfl rfl 17 (by decide) hfl85 (fun _ h9 => h9) rfl dX9_filled_61 ?_
    obtain ⟨hi_5, hF⟩ := gd_in_s hF
    refine va_iast hx hb hK hP hD hS 11 0 rfl rfl hi_5 dX9_filled_64 (fun H locs hP hD hS => ?_)
    have hP : va_P (gD G) vwCl (wMod G h0 qDR qLA qLE qCE qFI qCO qCR qSI qSR qMO qBO qPX qPY qPZ qSX dr bo po v_4.1 v_4.2.1 v_4.2.2 tx ty tz DR LA LE CE FI CO CR SI SR MO (upd BO (4 * p1).toNatClampNeg v_4.1) PX PY PZ SX) H := hP
    have hD : va_D A (wMod G h0 qDR qLA qLE qCE qFI qCO qCR qSI qSR qMO qBO qPX qPY qPZ qSX dr bo po v_4.1 v_4.2.1 v_4.2.2 tx ty tz DR LA LE CE FI CO CR SI SR MO (upd BO (4 * p1).toNatClampNeg v_4.1) PX PY PZ SX) := hD
    refine lv_aload_n hx hb dX9_filled_65 rfl (lv_at hl 0 rfl) ?_
    refine va_get (ci := 9) (v := .ref qBO) (C := RX9) (T := TX9) (N := 24) hx hb hts hin9 hown hK hP 0 rfl rfl 12 (by decide) hfl41 (fun _ h9 => h9) rfl dX9_filled_66 ?_
    refine lv_iconst (v := 4) hx hb dX9_filled_69 (by decide) ?_
    refine lv_iload_n hx hb dX9_filled_70 rfl (lv_at hl 1 rfl) ?_
    refine lv_imul hx hb dX9_filled_71 ?_
    refine lv_iconst (v := 1) hx hb dX9_filled_72 (by decide) ?_
    refine lv_iadd hx hb dX9_filled_73 ?_
    refine lv_aload_n hx hb dX9_filled_74 rfl (lv_at hl 0 rfl) ?_
    refine va_get (ci := 9) (v := .int v_4.2.1) (C := RX9) (T := TX9) (N := 24) hx hb hts hin9 hown hK hP 0 rfl rfl 18 (by decide) hfl88 (fun _ h9 => h9) rfl dX9_filled_75 ?_
    obtain ⟨hi_6, hF⟩ := gd_in_s hF
    refine va_iast hx hb hK hP hD hS 11 0 rfl rfl hi_6 dX9_filled_78 (fun H locs hP hD hS => ?_)
    have hP : va_P (gD G) vwCl (wMod G h0 qDR qLA qLE qCE qFI qCO qCR qSI qSR qMO qBO qPX qPY qPZ qSX dr bo po v_4.1 v_4.2.1 v_4.2.2 tx ty tz DR LA LE CE FI CO CR SI SR MO (upd (upd BO (4 * p1).toNatClampNeg v_4.1) ((4 * p1) + 1).toNatClampNeg v_4.2.1) PX PY PZ SX) H := hP
    have hD : va_D A (wMod G h0 qDR qLA qLE qCE qFI qCO qCR qSI qSR qMO qBO qPX qPY qPZ qSX dr bo po v_4.1 v_4.2.1 v_4.2.2 tx ty tz DR LA LE CE FI CO CR SI SR MO (upd (upd BO (4 * p1).toNatClampNeg v_4.1) ((4 * p1) + 1).toNatClampNeg v_4.2.1) PX PY PZ SX) := hD
    refine lv_aload_n hx hb dX9_filled_79 rfl (lv_at hl 0 rfl) ?_
    refine va_get (ci := 9) (v := .ref qBO) (C := RX9) (T := TX9) (N := 24) hx hb hts hin9 hown hK hP 0 rfl rfl 12 (by decide) hfl41 (fun _ h9 => h9) rfl dX9_filled_80 ?_
    refine lv_iconst (v := 4) hx hb dX9_filled_83 (by decide) ?_
    refine lv_iload_n hx hb dX9_filled_84 rfl (lv_at hl 1 rfl) ?_
    refine lv_imul hx hb dX9_filled_85 ?_
    refine lv_iconst (v := 2) hx hb dX9_filled_86 (by decide) ?_
    refine lv_iadd hx hb dX9_filled_87 ?_
    refine lv_aload_n hx hb dX9_filled_88 rfl (lv_at hl 0 rfl) ?_
    refine va_get (ci := 9) (v := .int v_4.2.2) (C := RX9) (T := TX9) (N := 24) hx hb hts hin9 hown hK hP 0 rfl rfl 19 (by decide) hfl91 (fun _ h9 => h9) rfl dX9_filled_89 ?_
    obtain ⟨hi_7, hF⟩ := gd_in_s hF
    refine va_iast hx hb hK hP hD hS 11 0 rfl rfl hi_7 dX9_filled_92 (fun H locs hP hD hS => ?_)
    have hP : va_P (gD G) vwCl (wMod G h0 qDR qLA qLE qCE qFI qCO qCR qSI qSR qMO qBO qPX qPY qPZ qSX dr bo po v_4.1 v_4.2.1 v_4.2.2 tx ty tz DR LA LE CE FI CO CR SI SR MO (upd (upd (upd BO (4 * p1).toNatClampNeg v_4.1) ((4 * p1) + 1).toNatClampNeg v_4.2.1) ((4 * p1) + 2).toNatClampNeg v_4.2.2) PX PY PZ SX) H := hP
    have hD : va_D A (wMod G h0 qDR qLA qLE qCE qFI qCO qCR qSI qSR qMO qBO qPX qPY qPZ qSX dr bo po v_4.1 v_4.2.1 v_4.2.2 tx ty tz DR LA LE CE FI CO CR SI SR MO (upd (upd (upd BO (4 * p1).toNatClampNeg v_4.1) ((4 * p1) + 1).toNatClampNeg v_4.2.1) ((4 * p1) + 2).toNatClampNeg v_4.2.2) PX PY PZ SX) := hD
    refine lv_iconst (v := 2) hx hb dX9_filled_93 (by decide) ?_
    refine lv_istore_n (lv' := [(2, .int 2), (0, .ref h0), (1, .int p1)]) hx hb dX9_filled_94 rfl hl (by decide) rfl (fun ls hl => ?_)
    exact hL95 FU p1 2 v_4.1 v_4.2.1 v_4.2.2 (upd (upd (upd BO (4 * p1).toNatClampNeg v_4.1) ((4 * p1) + 1).toNatClampNeg v_4.2.1) ((4 * p1) + 2).toNatClampNeg v_4.2.2) _ _ _ hF hP hD hS (lv_sub hl [1, 2, 0] rfl)
  · replace hF := it_p c_1 hF
    refine lv_iconst (v := 0) hx hb dX9_filled_8 (by decide) ?_
    exact W.iret (v := 0) hx hb hr  (fun t ht hW => ⟨⟨0, (sx, sy, sw, BO), rfl, ⟨congrArg Prod.fst (so_e hF), congrArg Prod.snd (so_e hF)⟩, qW_mk ht hP hK hW hD⟩, hS.F ht⟩) hS.2.2 dX9_filled_9
def fX9_isOn (SR : Nat → Int32) (p1 : Int32) (p2 : Int32) (p3 : Int32) (p4 : Int32) (p5 : Int32) : Option (Int32) :=
  (gd_in ((360 * p1) + (4 * p2)) 2880 (gd_in (((360 * p1) + (4 * p2)) + 1) 2880 (gd_in (((360 * p1) + (4 * p2)) + 2) 2880 (gd_in (((360 * p1) + (4 * p2)) + 3) 2880 (if (((SR ((360 * p1) + (4 * p2)).toNatClampNeg) * p3) + ((SR (((360 * p1) + (4 * p2)) + 1).toNatClampNeg) * p4)) + ((SR (((360 * p1) + (4 * p2)) + 2).toNatClampNeg) * p5) = SR (((360 * p1) + (4 * p2)) + 3).toNatClampNeg then (some 1) else (some 0))))))
abbrev rX9_isOn : Room := { frames := 0, cells := 0, slots := 0, locals := 0 }
set_option maxHeartbeats 40000000 in
set_option maxRecDepth 100000 in
theorem kX9_isOn (l : Launch) (G : GT) (h0 qDR qLA qLE qCE qFI qCO qCR qSI qSR qMO qBO qPX qPY qPZ qSX : Nat) (dr : Int32) (bo : Int32) (po : Int32) (sx : Int32) (sy : Int32) (sw : Int32) (tx : Int32) (ty : Int32) (tz : Int32) (DR : Nat → Int32) (LA : Nat → Int32) (LE : Nat → Int32) (CE : Nat → Int64) (FI : Nat → Int32) (CO : Nat → Int32) (CR : Nat → Int32) (SI : Nat → Int32) (SR : Nat → Int32) (MO : Nat → Int32) (BO : Nat → Int32) (PX : Nat → Int32) (PY : Nat → Int32) (PZ : Nat → Int32) (SX : Nat → Int32) (p1 : Int32) (p2 : Int32) (p3 : Int32) (p4 : Int32) (p5 : Int32) (res : Int32) (hF : fX9_isOn SR p1 p2 p3 p4 p5 = some res) : Met l yX9_isOn wsX9_isOn rX9_isOn (va_Pc [.ref h0, .int p1, .int p2, .int p3, .int p4, .int p5] (pR G (wMod G h0 qDR qLA qLE qCE qFI qCO qCR qSI qSR qMO qBO qPX qPY qPZ qSX dr bo po sx sy sw tx ty tz DR LA LE CE FI CO CR SI SR MO BO PX PY PZ SX))) (vp_Si (fun r => r = res ∧ (r = 0 ∨ r = 1))) 0 0 (fun _ => False) := by
  refine Met.ofW (cc := cX9_isOn) (maxL := 7) (ret := (some .boolean)) (by decide) rfl ?_
  intro p e s m args below meth c s₁ B hml hv
  obtain ⟨rfl, hP, hK⟩ := hv
  have hx := B.exec
  have hb := B.bytes
  have hr := B.returns
  have hts := atoms_spec (ws := wsX9_isOn) B.pre
  have hown : s.vm.findClass RX9 = some m.cls := findClass_of_methodNamed B.named
  have hlocks := B.notSynchronized
  have hin9 : ∀ w ∈ u_ws RX9 TX9 24, w ∈ wsX9_isOn := by decide +kernel
  have hfl35 := hts (.fieldLink RX9 35 "SwellBodiesModel" "sideRow" "[I") (by decide +kernel)
  have hl := lv_entry ([.ref h0, .int p1, .int p2, .int p3, .int p4, .int p5]) (n := 7) (Nat.le_of_ble_eq_true rfl)
  rw [lg_entry_eq]
  generalize (lg_sl ([.ref h0, .int p1, .int p2, .int p3, .int p4, .int p5]) ++ List.replicate (7 - (lg_sl ([.ref h0, .int p1, .int p2, .int p3, .int p4, .int p5])).length) Slot.unset).toArray = ls at hl ⊢
  have hl : lv_has ls 7 [(0, .ref h0), (1, .int p1), (2, .int p2), (3, .int p3), (4, .int p4), (5, .int p5)] := hl
  unfold fX9_isOn at hF
  refine lv_sipush (v := 360) hx hb dX9_isOn_0 (by decide) ?_
  refine lv_iload_n hx hb dX9_isOn_3 rfl (lv_at hl 1 rfl) ?_
  refine lv_imul hx hb dX9_isOn_4 ?_
  refine lv_iconst (v := 4) hx hb dX9_isOn_5 (by decide) ?_
  refine lv_iload_n hx hb dX9_isOn_6 rfl (lv_at hl 2 rfl) ?_
  refine lv_imul hx hb dX9_isOn_7 ?_
  refine lv_iadd hx hb dX9_isOn_8 ?_
  refine lv_istore (lv' := [(6, .int ((360 * p1) + (4 * p2))), (0, .ref h0), (1, .int p1), (2, .int p2), (3, .int p3), (4, .int p4), (5, .int p5)]) hx hb dX9_isOn_9 hl (by decide) rfl (fun ls hl => ?_)
  refine lv_aload_n hx hb dX9_isOn_11 rfl (lv_at hl 1 rfl) ?_
  refine va_get (ci := 9) (v := .ref qSR) (C := RX9) (T := TX9) (N := 24) hx hb hts hin9 hown hK hP 0 rfl rfl 10 (by decide) hfl35 (fun _ h9 => h9) rfl dX9_isOn_12 ?_
  refine lv_iload hx hb dX9_isOn_15 (lv_at hl 0 rfl) ?_
  obtain ⟨hi_1, hF⟩ := gd_in_s hF
  refine va_iald hx hb hK hP 9 0 rfl rfl hi_1 dX9_isOn_17 ?_
  refine lv_iload_n hx hb dX9_isOn_18 rfl (lv_at hl 4 rfl) ?_
  refine lv_imul hx hb dX9_isOn_19 ?_
  refine lv_aload_n hx hb dX9_isOn_20 rfl (lv_at hl 1 rfl) ?_
  refine va_get (ci := 9) (v := .ref qSR) (C := RX9) (T := TX9) (N := 24) hx hb hts hin9 hown hK hP 0 rfl rfl 10 (by decide) hfl35 (fun _ h9 => h9) rfl dX9_isOn_21 ?_
  refine lv_iload hx hb dX9_isOn_24 (lv_at hl 0 rfl) ?_
  refine lv_iconst (v := 1) hx hb dX9_isOn_26 (by decide) ?_
  refine lv_iadd hx hb dX9_isOn_27 ?_
  obtain ⟨hi_2, hF⟩ := gd_in_s hF
  refine va_iald hx hb hK hP 9 0 rfl rfl hi_2 dX9_isOn_28 ?_
  refine lv_iload hx hb dX9_isOn_29 (lv_at hl 5 rfl) ?_
  refine lv_imul hx hb dX9_isOn_31 ?_
  refine lv_iadd hx hb dX9_isOn_32 ?_
  refine lv_aload_n hx hb dX9_isOn_33 rfl (lv_at hl 1 rfl) ?_
  refine va_get (ci := 9) (v := .ref qSR) (C := RX9) (T := TX9) (N := 24) hx hb hts hin9 hown hK hP 0 rfl rfl 10 (by decide) hfl35 (fun _ h9 => h9) rfl dX9_isOn_34 ?_
  refine lv_iload hx hb dX9_isOn_37 (lv_at hl 0 rfl) ?_
  refine lv_iconst (v := 2) hx hb dX9_isOn_39 (by decide) ?_
  refine lv_iadd hx hb dX9_isOn_40 ?_
  obtain ⟨hi_3, hF⟩ := gd_in_s hF
  refine va_iald hx hb hK hP 9 0 rfl rfl hi_3 dX9_isOn_41 ?_
  refine lv_iload hx hb dX9_isOn_42 (lv_at hl 6 rfl) ?_
  refine lv_imul hx hb dX9_isOn_44 ?_
  refine lv_iadd hx hb dX9_isOn_45 ?_
  refine lv_aload_n hx hb dX9_isOn_46 rfl (lv_at hl 1 rfl) ?_
  refine va_get (ci := 9) (v := .ref qSR) (C := RX9) (T := TX9) (N := 24) hx hb hts hin9 hown hK hP 0 rfl rfl 10 (by decide) hfl35 (fun _ h9 => h9) rfl dX9_isOn_47 ?_
  refine lv_iload hx hb dX9_isOn_50 (lv_at hl 0 rfl) ?_
  refine lv_iconst (v := 3) hx hb dX9_isOn_52 (by decide) ?_
  refine lv_iadd hx hb dX9_isOn_53 ?_
  obtain ⟨hi_4, hF⟩ := gd_in_s hF
  refine va_iald hx hb hK hP 9 0 rfl rfl hi_4 dX9_isOn_54 ?_
  refine lv_icmp_ne (tgt := 62) hx hb dX9_isOn_55 (by decide) (fun c_5 => ?_) (fun c_5 => ?_)
  · replace hF := it_n c_5 hF
    refine lv_iconst (v := 0) hx hb dX9_isOn_62 (by decide) ?_
    exact W.zret (v := 0) hx hb hr (by first | rfl | (rcases hF with h | h <;> rw [h] <;> rfl)) (fun t ht hW => ⟨0, rfl, ⟨so_e hF, (by first | exact Or.inl rfl | exact Or.inr rfl | assumption)⟩, ht⟩) (fun q h => absurd h List.not_mem_nil) dX9_isOn_63
  · replace hF := it_p c_5 hF
    refine lv_iconst (v := 1) hx hb dX9_isOn_58 (by decide) ?_
    refine lv_goto (tgt := 63) hx hb dX9_isOn_59 (by decide) ?_
    exact W.zret (v := 1) hx hb hr (by first | rfl | (rcases hF with h | h <;> rw [h] <;> rfl)) (fun t ht hW => ⟨1, rfl, ⟨so_e hF, (by first | exact Or.inl rfl | exact Or.inr rfl | assumption)⟩, ht⟩) (fun q h => absurd h List.not_mem_nil) dX9_isOn_63
def JX9_isCorner_211 (FI : Nat → Int32) (SI : Nat → Int32) (SR : Nat → Int32) (PX : Nat → Int32) (PY : Nat → Int32) (PZ : Nat → Int32) (k18 : Int32 → Int32 → Int32 → Int32 → Int32 → Int32 → Int32 → Int32 → Int32 → Int32 → Int32 → Option (Int32 × Int32 × Int32 × Int32)) (a1 : Int32) (a2 : Int32) (a3 : Int32) (a4 : Int32) (a5 : Int32) (a6 : Int32) (a7 : Int32) (a8 : Int32) (msx : Int32) (msy : Int32) (msw : Int32) : Option (Int32 × Int32 × Int32 × Int32) :=
  (k18 a1 a2 a3 a4 a5 a6 a7 (a8 + 1) msx msy msw)
def LX9_isCorner_18 (FI : Nat → Int32) (SI : Nat → Int32) (SR : Nat → Int32) (PX : Nat → Int32) (PY : Nat → Int32) (PZ : Nat → Int32)  : Nat → Int32 → Int32 → Int32 → Int32 → Int32 → Int32 → Int32 → Int32 → Int32 → Int32 → Int32 → Option (Int32 × Int32 × Int32 × Int32)
  | 0, _, _, _, _, _, _, _, _, _, _, _ => none
  | k + 1, a1, a2, a3, a4, a5, a6, a7, a8, msx, msy, msw =>
  (gd_in a1 8 (if SI a1.toNatClampNeg ≤ a8 then (if FI a1.toNatClampNeg = 0 then (some (1, msx, msy, msw)) else (if FI a1.toNatClampNeg = 1 then (if a3 = (-4) then (some (0, msx, msy, msw)) else (some (1, msx, msy, msw))) else (some (0, msx, msy, msw)))) else (gd_in a2 140 (bd (fX9_isOn SR a1 a8 (PX a2.toNatClampNeg) (PY a2.toNatClampNeg) (PZ a2.toNatClampNeg)) (fun v_7 => (if v_7 = 0 then (JX9_isCorner_211 FI SI SR PX PY PZ (LX9_isCorner_18 FI SI SR PX PY PZ k) a1 a2 a3 a4 a5 a6 a7 a8 msx msy msw) else (if a3 = (-4) then (JX9_isCorner_211 FI SI SR PX PY PZ (LX9_isCorner_18 FI SI SR PX PY PZ k) a1 a2 ((360 * a1) + (4 * a8)) a4 a5 a6 a7 a8 msx msy msw) else (if a4 = 0 then (gd_in a3 2880 (gd_in (a3 + 1) 2880 (gd_in (a3 + 2) 2880 (gd_in ((360 * a1) + (4 * a8)) 2880 (gd_in (((360 * a1) + (4 * a8)) + 1) 2880 (gd_in (((360 * a1) + (4 * a8)) + 2) 2880 (bd (fX9_square msx msy msw (SR a3.toNatClampNeg) (SR (a3 + 1).toNatClampNeg) (SR (a3 + 2).toNatClampNeg) (SR ((360 * a1) + (4 * a8)).toNatClampNeg) (SR (((360 * a1) + (4 * a8)) + 1).toNatClampNeg) (SR (((360 * a1) + (4 * a8)) + 2).toNatClampNeg)) (fun v_22 => (if FI a1.toNatClampNeg = 2 then (some (1, v_22.1, v_22.2.1, v_22.2.2)) else (JX9_isCorner_211 FI SI SR PX PY PZ (LX9_isCorner_18 FI SI SR PX PY PZ k) a1 a2 a3 1 v_22.1 v_22.2.1 v_22.2.2 a8 v_22.1 v_22.2.1 v_22.2.2)))))))))) else (gd_in ((360 * a1) + (4 * a8)) 2880 (gd_in (((360 * a1) + (4 * a8)) + 1) 2880 (gd_in (((360 * a1) + (4 * a8)) + 2) 2880 (if ((a5 * (SR ((360 * a1) + (4 * a8)).toNatClampNeg)) + (a6 * (SR (((360 * a1) + (4 * a8)) + 1).toNatClampNeg))) + (a7 * (SR (((360 * a1) + (4 * a8)) + 2).toNatClampNeg)) = 0 then (JX9_isCorner_211 FI SI SR PX PY PZ (LX9_isCorner_18 FI SI SR PX PY PZ k) a1 a2 a3 a4 a5 a6 a7 a8 msx msy msw) else (some (1, msx, msy, msw))))))))))))))
def fX9_isCorner (sx : Int32) (sy : Int32) (sw : Int32) (FI : Nat → Int32) (SI : Nat → Int32) (SR : Nat → Int32) (PX : Nat → Int32) (PY : Nat → Int32) (PZ : Nat → Int32) (p1 : Int32) (p2 : Int32) : Option (Int32 × Int32 × Int32 × Int32) :=
  (LX9_isCorner_18 FI SI SR PX PY PZ FU p1 p2 (-4) 0 0 0 0 0 sx sy sw)
abbrev rX9_isCorner : Room := { frames := 3, cells := 0, slots := 0, locals := 74 }
set_option maxHeartbeats 40000000 in
set_option maxRecDepth 100000 in
theorem kX9_isCorner (l : Launch) (G : GT) (h0 qDR qLA qLE qCE qFI qCO qCR qSI qSR qMO qBO qPX qPY qPZ qSX : Nat) (sz : Nat) (dr : Int32) (bo : Int32) (po : Int32) (sx : Int32) (sy : Int32) (sw : Int32) (tx : Int32) (ty : Int32) (tz : Int32) (DR : Nat → Int32) (LA : Nat → Int32) (LE : Nat → Int32) (CE : Nat → Int64) (FI : Nat → Int32) (CO : Nat → Int32) (CR : Nat → Int32) (SI : Nat → Int32) (SR : Nat → Int32) (MO : Nat → Int32) (BO : Nat → Int32) (PX : Nat → Int32) (PY : Nat → Int32) (PZ : Nat → Int32) (SX : Nat → Int32) (p1 : Int32) (p2 : Int32) (res : Int32 × Int32 × Int32 × Int32) (hF : fX9_isCorner sx sy sw FI SI SR PX PY PZ p1 p2 = some res) : Met l yX9_isCorner wsX9_isCorner rX9_isCorner (va_Pc [.ref h0, .int p1, .int p2] (pW G sz (wMod G h0 qDR qLA qLE qCE qFI qCO qCR qSI qSR qMO qBO qPX qPY qPZ qSX dr bo po sx sy sw tx ty tz DR LA LE CE FI CO CR SI SR MO BO PX PY PZ SX))) (va_Qi (fun (r : Int32) (u : Int32 × Int32 × Int32) => r = res.1 ∧ u = res.2 ∧ (r = 0 ∨ r = 1)) (fun u t => qW G (va_A (wMod G h0 qDR qLA qLE qCE qFI qCO qCR qSI qSR qMO qBO qPX qPY qPZ qSX dr bo po sx sy sw tx ty tz DR LA LE CE FI CO CR SI SR MO BO PX PY PZ SX) sz) (wMod G h0 qDR qLA qLE qCE qFI qCO qCR qSI qSR qMO qBO qPX qPY qPZ qSX dr bo po u.1 u.2.1 u.2.2 tx ty tz DR LA LE CE FI CO CR SI SR MO BO PX PY PZ SX) t) (va_A (wMod G h0 qDR qLA qLE qCE qFI qCO qCR qSI qSR qMO qBO qPX qPY qPZ qSX dr bo po sx sy sw tx ty tz DR LA LE CE FI CO CR SI SR MO BO PX PY PZ SX) sz)) 0 0 (va_A (wMod G h0 qDR qLA qLE qCE qFI qCO qCR qSI qSR qMO qBO qPX qPY qPZ qSX dr bo po sx sy sw tx ty tz DR LA LE CE FI CO CR SI SR MO BO PX PY PZ SX) sz) := by
  refine Met.ofW (cc := cX9_isCorner) (maxL := 10) (ret := (some .boolean)) (by decide) rfl ?_
  intro p e s m args below meth c s₁ B hml hv
  obtain ⟨rfl, hsz, hP, hK, hD0⟩ := hv
  have hx := B.exec
  have hb := B.bytes
  have hr := B.returns
  have hts := atoms_spec (ws := wsX9_isCorner) B.pre
  have hown : s.vm.findClass RX9 = some m.cls := findClass_of_methodNamed B.named
  have hlocks := B.notSynchronized
  subst hsz
  have hD := hD0.self (sz := s.heap.size)
  generalize hAe : va_A (wMod G h0 qDR qLA qLE qCE qFI qCO qCR qSI qSR qMO qBO qPX qPY qPZ qSX dr bo po sx sy sw tx ty tz DR LA LE CE FI CO CR SI SR MO BO PX PY PZ SX) s.heap.size = A at hD ⊢
  have hA : ∀ q : Nat, s.heap.size ≤ q → A q := fun q h => by rw [← hAe]; exact Or.inr h
  have hS : va_S A s.heap s.heap [] := va_S.rf
  have hin9 : ∀ w ∈ u_ws RX9 TX9 24, w ∈ wsX9_isCorner := by decide +kernel
  have hfl32 := hts (.fieldLink RX9 32 "SwellBodiesModel" "sides" "[I") (by decide +kernel)
  have hfl23 := hts (.fieldLink RX9 23 "SwellBodiesModel" "fills" "[I") (by decide +kernel)
  have hfl44 := hts (.fieldLink RX9 44 "SwellBodiesModel" "px" "[I") (by decide +kernel)
  have hfl47 := hts (.fieldLink RX9 47 "SwellBodiesModel" "py" "[I") (by decide +kernel)
  have hfl50 := hts (.fieldLink RX9 50 "SwellBodiesModel" "pz" "[I") (by decide +kernel)
  have hfl35 := hts (.fieldLink RX9 35 "SwellBodiesModel" "sideRow" "[I") (by decide +kernel)
  have hfl85 := hts (.fieldLink RX9 85 "SwellBodiesModel" "sx" "I") (by decide +kernel)
  have hfl88 := hts (.fieldLink RX9 88 "SwellBodiesModel" "sy" "I") (by decide +kernel)
  have hfl91 := hts (.fieldLink RX9 91 "SwellBodiesModel" "sz" "I") (by decide +kernel)
  have hl := lv_entry ([.ref h0, .int p1, .int p2]) (n := 10) (Nat.le_of_ble_eq_true rfl)
  rw [lg_entry_eq]
  generalize (lg_sl ([.ref h0, .int p1, .int p2]) ++ List.replicate (10 - (lg_sl ([.ref h0, .int p1, .int p2])).length) Slot.unset).toArray = ls at hl ⊢
  have hl : lv_has ls 10 [(0, .ref h0), (1, .int p1), (2, .int p2)] := hl
  have hJ211 : ∀ (k18 : Int32 → Int32 → Int32 → Int32 → Int32 → Int32 → Int32 → Int32 → Int32 → Int32 → Int32 → Option (Int32 × Int32 × Int32 × Int32)), (∀ (a1 : Int32) (a2 : Int32) (a3 : Int32) (a4 : Int32) (a5 : Int32) (a6 : Int32) (a7 : Int32) (a8 : Int32) (msx : Int32) (msy : Int32) (msw : Int32) (H : Heap) (locs : List Loc) (ls : Array Slot), k18 a1 a2 a3 a4 a5 a6 a7 a8 msx msy msw = some res → va_P (gD G) vwCl (wMod G h0 qDR qLA qLE qCE qFI qCO qCR qSI qSR qMO qBO qPX qPY qPZ qSX dr bo po msx msy msw tx ty tz DR LA LE CE FI CO CR SI SR MO BO PX PY PZ SX) H → va_D A (wMod G h0 qDR qLA qLE qCE qFI qCO qCR qSI qSR qMO qBO qPX qPY qPZ qSX dr bo po msx msy msw tx ty tz DR LA LE CE FI CO CR SI SR MO BO PX PY PZ SX) → va_S A s.heap H locs → lv_has ls 10 [(0, .ref h0), (1, .int a1), (2, .int a2), (3, .int a3), (4, .int a4), (5, .int a5), (6, .int a6), (7, .int a7), (8, .int a8)] → W p l e (headSpec wsX9_isCorner rX9_isCorner).room s m ([.ref h0, .int p1, .int p2] : List Value).toArray below meth c H locs 0 0 (MQ below (va_Qi (fun (r : Int32) (u : Int32 × Int32 × Int32) => r = res.1 ∧ u = res.2 ∧ (r = 0 ∨ r = 1)) (fun u t => qW G A (wMod G h0 qDR qLA qLE qCE qFI qCO qCR qSI qSR qMO qBO qPX qPY qPZ qSX dr bo po u.1 u.2.1 u.2.2 tx ty tz DR LA LE CE FI CO CR SI SR MO BO PX PY PZ SX) t) A) ([.ref h0, .int p1, .int p2] : List Value).toArray s 0 0 A) (F0 m 18 ls [])) → ∀ (a1 : Int32) (a2 : Int32) (a3 : Int32) (a4 : Int32) (a5 : Int32) (a6 : Int32) (a7 : Int32) (a8 : Int32) (msx : Int32) (msy : Int32) (msw : Int32) (H : Heap) (locs : List Loc) (ls : Array Slot), JX9_isCorner_211 FI SI SR PX PY PZ k18 a1 a2 a3 a4 a5 a6 a7 a8 msx msy msw = some res → va_P (gD G) vwCl (wMod G h0 qDR qLA qLE qCE qFI qCO qCR qSI qSR qMO qBO qPX qPY qPZ qSX dr bo po msx msy msw tx ty tz DR LA LE CE FI CO CR SI SR MO BO PX PY PZ SX) H → va_D A (wMod G h0 qDR qLA qLE qCE qFI qCO qCR qSI qSR qMO qBO qPX qPY qPZ qSX dr bo po msx msy msw tx ty tz DR LA LE CE FI CO CR SI SR MO BO PX PY PZ SX) → va_S A s.heap H locs → lv_has ls 10 [(0, .ref h0), (1, .int a1), (2, .int a2), (3, .int a3), (4, .int a4), (5, .int a5), (6, .int a6), (7, .int a7), (8, .int a8)] → W p l e (headSpec wsX9_isCorner rX9_isCorner).room s m ([.ref h0, .int p1, .int p2] : List Value).toArray below meth c H locs 0 0 (MQ below (va_Qi (fun (r : Int32) (u : Int32 × Int32 × Int32) => r = res.1 ∧ u = res.2 ∧ (r = 0 ∨ r = 1)) (fun u t => qW G A (wMod G h0 qDR qLA qLE qCE qFI qCO qCR qSI qSR qMO qBO qPX qPY qPZ qSX dr bo po u.1 u.2.1 u.2.2 tx ty tz DR LA LE CE FI CO CR SI SR MO BO PX PY PZ SX) t) A) ([.ref h0, .int p1, .int p2] : List Value).toArray s 0 0 A) (F0 m 211 ls []) := by
    intro k18 hk18
    intro a1 a2 a3 a4 a5 a6 a7 a8 msx msy msw H locs ls hF hP hD hS hl
    unfold JX9_isCorner_211 at hF
    refine lv_iinc (v := a8 + 1) (lv' := [(8, .int (a8 + 1)), (0, .ref h0), (1, .int a1), (2, .int a2), (3, .int a3), (4, .int a4), (5, .int a5), (6, .int a6), (7, .int a7)]) hx hb dX9_isCorner_211 hl (k := 8) rfl rfl (by decide) rfl (fun ls hl => ?_)
    refine lv_goto (tgt := 18) hx hb dX9_isCorner_214 (by decide) ?_
    exact hk18 a1 a2 a3 a4 a5 a6 a7 (a8 + 1) msx msy msw _ _ _ hF hP hD hS (lv_sub hl [1, 2, 3, 4, 5, 6, 7, 8, 0] rfl)
  have hL18 : ∀ (k : Nat), ∀ (a1 : Int32) (a2 : Int32) (a3 : Int32) (a4 : Int32) (a5 : Int32) (a6 : Int32) (a7 : Int32) (a8 : Int32) (msx : Int32) (msy : Int32) (msw : Int32) (H : Heap) (locs : List Loc) (ls : Array Slot), LX9_isCorner_18 FI SI SR PX PY PZ k a1 a2 a3 a4 a5 a6 a7 a8 msx msy msw = some res → va_P (gD G) vwCl (wMod G h0 qDR qLA qLE qCE qFI qCO qCR qSI qSR qMO qBO qPX qPY qPZ qSX dr bo po msx msy msw tx ty tz DR LA LE CE FI CO CR SI SR MO BO PX PY PZ SX) H → va_D A (wMod G h0 qDR qLA qLE qCE qFI qCO qCR qSI qSR qMO qBO qPX qPY qPZ qSX dr bo po msx msy msw tx ty tz DR LA LE CE FI CO CR SI SR MO BO PX PY PZ SX) → va_S A s.heap H locs → lv_has ls 10 [(0, .ref h0), (1, .int a1), (2, .int a2), (3, .int a3), (4, .int a4), (5, .int a5), (6, .int a6), (7, .int a7), (8, .int a8)] → W p l e (headSpec wsX9_isCorner rX9_isCorner).room s m ([.ref h0, .int p1, .int p2] : List Value).toArray below meth c H locs 0 0 (MQ below (va_Qi (fun (r : Int32) (u : Int32 × Int32 × Int32) => r = res.1 ∧ u = res.2 ∧ (r = 0 ∨ r = 1)) (fun u t => qW G A (wMod G h0 qDR qLA qLE qCE qFI qCO qCR qSI qSR qMO qBO qPX qPY qPZ qSX dr bo po u.1 u.2.1 u.2.2 tx ty tz DR LA LE CE FI CO CR SI SR MO BO PX PY PZ SX) t) A) ([.ref h0, .int p1, .int p2] : List Value).toArray s 0 0 A) (F0 m 18 ls []) := by
    intro k
    induction k with
    | zero =>
      intro a1 a2 a3 a4 a5 a6 a7 a8 msx msy msw H locs ls hF hP hD hS hl
      rw [LX9_isCorner_18] at hF
      cases hF
    | succ k ih =>
      intro a1 a2 a3 a4 a5 a6 a7 a8 msx msy msw H locs ls hF hP hD hS hl
      rw [LX9_isCorner_18] at hF
      refine lv_iload hx hb dX9_isCorner_18 (lv_at hl 8 rfl) ?_
      refine lv_aload_n hx hb dX9_isCorner_20 rfl (lv_at hl 0 rfl) ?_
      refine va_get (ci := 9) (v := .ref qSI) (C := RX9) (T := TX9) (N := 24) hx hb hts hin9 hown hK hP 0 rfl rfl 9 (by decide) hfl32 (fun _ h9 => h9) rfl dX9_isCorner_21 ?_
      refine lv_iload_n hx hb dX9_isCorner_24 rfl (lv_at hl 1 rfl) ?_
      obtain ⟨hi_1, hF⟩ := gd_in_s hF
      refine va_iald hx hb hK hP 8 0 rfl rfl hi_1 dX9_isCorner_25 ?_
      refine lv_icmp_ge (tgt := 217) hx hb dX9_isCorner_26 (by decide) (fun c_2 => ?_) (fun c_2 => ?_)
      · replace hF := it_p c_2 hF
        refine lv_aload_n hx hb dX9_isCorner_217 rfl (lv_at hl 0 rfl) ?_
        refine va_get (ci := 9) (v := .ref qFI) (C := RX9) (T := TX9) (N := 24) hx hb hts hin9 hown hK hP 0 rfl rfl 6 (by decide) hfl23 (fun _ h9 => h9) rfl dX9_isCorner_218 ?_
        refine lv_iload_n hx hb dX9_isCorner_221 rfl (lv_at hl 1 rfl) ?_
        refine va_iald hx hb hK hP 5 0 rfl rfl hi_1 dX9_isCorner_222 ?_
        refine lv_if_eq (tgt := 242) hx hb dX9_isCorner_223 (by decide) (fun c_3 => ?_) (fun c_3 => ?_)
        · replace hF := it_p c_3 hF
          refine lv_iconst (v := 1) hx hb dX9_isCorner_242 (by decide) ?_
          refine lv_goto (tgt := 247) hx hb dX9_isCorner_243 (by decide) ?_
          exact W.zret (v := 1) hx hb hr (by first | rfl | (rcases hF with h | h <;> rw [h] <;> rfl)) (fun t ht hW => ⟨⟨1, (msx, msy, msw), rfl, ⟨congrArg Prod.fst (so_e hF), congrArg Prod.snd (so_e hF), (by first | exact Or.inl rfl | exact Or.inr rfl | assumption)⟩, qW_mk ht hP hK hW hD⟩, hS.F ht⟩) hS.2.2 dX9_isCorner_247
        · replace hF := it_n c_3 hF
          refine lv_aload_n hx hb dX9_isCorner_226 rfl (lv_at hl 0 rfl) ?_
          refine va_get (ci := 9) (v := .ref qFI) (C := RX9) (T := TX9) (N := 24) hx hb hts hin9 hown hK hP 0 rfl rfl 6 (by decide) hfl23 (fun _ h9 => h9) rfl dX9_isCorner_227 ?_
          refine lv_iload_n hx hb dX9_isCorner_230 rfl (lv_at hl 1 rfl) ?_
          refine va_iald hx hb hK hP 5 0 rfl rfl hi_1 dX9_isCorner_231 ?_
          refine lv_iconst (v := 1) hx hb dX9_isCorner_232 (by decide) ?_
          refine lv_icmp_ne (tgt := 246) hx hb dX9_isCorner_233 (by decide) (fun c_4 => ?_) (fun c_4 => ?_)
          · replace hF := it_n c_4 hF
            refine lv_iconst (v := 0) hx hb dX9_isCorner_246 (by decide) ?_
            exact W.zret (v := 0) hx hb hr (by first | rfl | (rcases hF with h | h <;> rw [h] <;> rfl)) (fun t ht hW => ⟨⟨0, (msx, msy, msw), rfl, ⟨congrArg Prod.fst (so_e hF), congrArg Prod.snd (so_e hF), (by first | exact Or.inl rfl | exact Or.inr rfl | assumption)⟩, qW_mk ht hP hK hW hD⟩, hS.F ht⟩) hS.2.2 dX9_isCorner_247
          · replace hF := it_p c_4 hF
            refine lv_iload_n hx hb dX9_isCorner_236 rfl (lv_at hl 3 rfl) ?_
            refine lv_bipush (v := (-4)) hx hb dX9_isCorner_237 (by decide) ?_
            refine lv_icmp_eq (tgt := 246) hx hb dX9_isCorner_239 (by decide) (fun c_5 => ?_) (fun c_5 => ?_)
            · replace hF := it_p c_5 hF
              refine lv_iconst (v := 0) hx hb dX9_isCorner_246 (by decide) ?_
              exact W.zret (v := 0) hx hb hr (by first | rfl | (rcases hF with h | h <;> rw [h] <;> rfl)) (fun t ht hW => ⟨⟨0, (msx, msy, msw), rfl, ⟨congrArg Prod.fst (so_e hF), congrArg Prod.snd (so_e hF), (by first | exact Or.inl rfl | exact Or.inr rfl | assumption)⟩, qW_mk ht hP hK hW hD⟩, hS.F ht⟩) hS.2.2 dX9_isCorner_247
            · replace hF := it_n c_5 hF
              refine lv_iconst (v := 1) hx hb dX9_isCorner_242 (by decide) ?_
              refine lv_goto (tgt := 247) hx hb dX9_isCorner_243 (by decide) ?_
              exact W.zret (v := 1) hx hb hr (by first | rfl | (rcases hF with h | h <;> rw [h] <;> rfl)) (fun t ht hW => ⟨⟨1, (msx, msy, msw), rfl, ⟨congrArg Prod.fst (so_e hF), congrArg Prod.snd (so_e hF), (by first | exact Or.inl rfl | exact Or.inr rfl | assumption)⟩, qW_mk ht hP hK hW hD⟩, hS.F ht⟩) hS.2.2 dX9_isCorner_247
      · replace hF := it_n c_2 hF
        refine lv_aload_n hx hb dX9_isCorner_29 rfl (lv_at hl 0 rfl) ?_
        refine lv_iload_n hx hb dX9_isCorner_30 rfl (lv_at hl 1 rfl) ?_
        refine lv_iload hx hb dX9_isCorner_31 (lv_at hl 8 rfl) ?_
        refine lv_aload_n hx hb dX9_isCorner_33 rfl (lv_at hl 0 rfl) ?_
        refine va_get (ci := 9) (v := .ref qPX) (C := RX9) (T := TX9) (N := 24) hx hb hts hin9 hown hK hP 0 rfl rfl 14 (by decide) hfl44 (fun _ h9 => h9) rfl dX9_isCorner_34 ?_
        refine lv_iload_n hx hb dX9_isCorner_37 rfl (lv_at hl 2 rfl) ?_
        obtain ⟨hi_6, hF⟩ := gd_in_s hF
        refine va_iald hx hb hK hP 12 0 rfl rfl hi_6 dX9_isCorner_38 ?_
        refine lv_aload_n hx hb dX9_isCorner_39 rfl (lv_at hl 0 rfl) ?_
        refine va_get (ci := 9) (v := .ref qPY) (C := RX9) (T := TX9) (N := 24) hx hb hts hin9 hown hK hP 0 rfl rfl 15 (by decide) hfl47 (fun _ h9 => h9) rfl dX9_isCorner_40 ?_
        refine lv_iload_n hx hb dX9_isCorner_43 rfl (lv_at hl 2 rfl) ?_
        refine va_iald hx hb hK hP 13 0 rfl rfl hi_6 dX9_isCorner_44 ?_
        refine lv_aload_n hx hb dX9_isCorner_45 rfl (lv_at hl 0 rfl) ?_
        refine va_get (ci := 9) (v := .ref qPZ) (C := RX9) (T := TX9) (N := 24) hx hb hts hin9 hown hK hP 0 rfl rfl 16 (by decide) hfl50 (fun _ h9 => h9) rfl dX9_isCorner_46 ?_
        refine lv_iload_n hx hb dX9_isCorner_49 rfl (lv_at hl 2 rfl) ?_
        refine va_iald hx hb hK hP 14 0 rfl rfl hi_6 dX9_isCorner_50 ?_
        obtain ⟨v_7, hv_7, hF⟩ := bd_s hF
        refine ro_ze (va_runV (As := [.int a1, .int a8, .int (PX a2.toNatClampNeg), .int (PY a2.toNatClampNeg), .int (PZ a2.toNatClampNeg)]) (rest := []) ⟨hx, hb, hml, hown, hts⟩ (kX9_isOn l G h0 qDR qLA qLE qCE qFI qCO qCR qSI qSR qMO qBO qPX qPY qPZ qSX dr bo po msx msy msw tx ty tz DR LA LE CE FI CO CR SI SR MO BO PX PY PZ SX a1 a8 (PX a2.toNatClampNeg) (PY a2.toNatClampNeg) (PZ a2.toNatClampNeg) v_7 hv_7) (cwV 5 hts gX9_isCorner_X9_isOn rfl rfl rfl (by decide +kernel) ⟨Nat.le_of_ble_eq_true rfl, Nat.le_of_ble_eq_true rfl⟩) (pvR (q0 := 0) 9 hK (hP.sub (ws' := (wMod G h0 qDR qLA qLE qCE qFI qCO qCR qSI qSR qMO qBO qPX qPY qPZ qSX dr bo po msx msy msw tx ty tz DR LA LE CE FI CO CR SI SR MO BO PX PY PZ SX)) [0, 1, 2, 3, 4, 5, 6, 7, 8, 9, 10, 11, 12, 13, 14, 15] rfl) rfl rfl) rfl rfl hl.1 rfl (lv_room (Nat.le_of_ble_eq_true rfl)) dX9_isCorner_51 ⟨Nat.le_of_ble_eq_true rfl, Nat.le_of_ble_eq_true rfl⟩) (fun hb_8 => ?_)
        refine lv_if_eq (tgt := 211) hx hb dX9_isCorner_54 (by decide) (fun c_9 => ?_) (fun c_9 => ?_)
        · replace hF := it_p c_9 hF
          exact hJ211 _ ih a1 a2 a3 a4 a5 a6 a7 a8 msx msy msw _ _ _ hF hP hD hS (lv_sub hl [0, 1, 2, 3, 4, 5, 6, 7, 8] rfl)
        · replace hF := it_n c_9 hF
          refine lv_sipush (v := 360) hx hb dX9_isCorner_57 (by decide) ?_
          refine lv_iload_n hx hb dX9_isCorner_60 rfl (lv_at hl 1 rfl) ?_
          refine lv_imul hx hb dX9_isCorner_61 ?_
          refine lv_iconst (v := 4) hx hb dX9_isCorner_62 (by decide) ?_
          refine lv_iload hx hb dX9_isCorner_63 (lv_at hl 8 rfl) ?_
          refine lv_imul hx hb dX9_isCorner_65 ?_
          refine lv_iadd hx hb dX9_isCorner_66 ?_
          refine lv_istore (lv' := [(9, .int ((360 * a1) + (4 * a8))), (0, .ref h0), (1, .int a1), (2, .int a2), (3, .int a3), (4, .int a4), (5, .int a5), (6, .int a6), (7, .int a7), (8, .int a8)]) hx hb dX9_isCorner_67 hl (by decide) rfl (fun ls hl => ?_)
          refine lv_iload_n hx hb dX9_isCorner_69 rfl (lv_at hl 4 rfl) ?_
          refine lv_bipush (v := (-4)) hx hb dX9_isCorner_70 (by decide) ?_
          refine lv_icmp_ne (tgt := 81) hx hb dX9_isCorner_72 (by decide) (fun c_10 => ?_) (fun c_10 => ?_)
          · replace hF := it_n c_10 hF
            refine lv_iload hx hb dX9_isCorner_81 (lv_at hl 5 rfl) ?_
            refine lv_if_ne (tgt := 170) hx hb dX9_isCorner_83 (by decide) (fun c_11 => ?_) (fun c_11 => ?_)
            · replace hF := it_n c_11 hF
              refine lv_iload hx hb dX9_isCorner_170 (lv_at hl 6 rfl) ?_
              refine lv_aload_n hx hb dX9_isCorner_172 rfl (lv_at hl 1 rfl) ?_
              refine va_get (ci := 9) (v := .ref qSR) (C := RX9) (T := TX9) (N := 24) hx hb hts hin9 hown hK hP 0 rfl rfl 10 (by decide) hfl35 (fun _ h9 => h9) rfl dX9_isCorner_173 ?_
              refine lv_iload hx hb dX9_isCorner_176 (lv_at hl 0 rfl) ?_
              obtain ⟨hi_12, hF⟩ := gd_in_s hF
              refine va_iald hx hb hK hP 9 0 rfl rfl hi_12 dX9_isCorner_178 ?_
              refine lv_imul hx hb dX9_isCorner_179 ?_
              refine lv_iload hx hb dX9_isCorner_180 (lv_at hl 7 rfl) ?_
              refine lv_aload_n hx hb dX9_isCorner_182 rfl (lv_at hl 1 rfl) ?_
              refine va_get (ci := 9) (v := .ref qSR) (C := RX9) (T := TX9) (N := 24) hx hb hts hin9 hown hK hP 0 rfl rfl 10 (by decide) hfl35 (fun _ h9 => h9) rfl dX9_isCorner_183 ?_
              refine lv_iload hx hb dX9_isCorner_186 (lv_at hl 0 rfl) ?_
              refine lv_iconst (v := 1) hx hb dX9_isCorner_188 (by decide) ?_
              refine lv_iadd hx hb dX9_isCorner_189 ?_
              obtain ⟨hi_13, hF⟩ := gd_in_s hF
              refine va_iald hx hb hK hP 9 0 rfl rfl hi_13 dX9_isCorner_190 ?_
              refine lv_imul hx hb dX9_isCorner_191 ?_
              refine lv_iadd hx hb dX9_isCorner_192 ?_
              refine lv_iload hx hb dX9_isCorner_193 (lv_at hl 8 rfl) ?_
              refine lv_aload_n hx hb dX9_isCorner_195 rfl (lv_at hl 1 rfl) ?_
              refine va_get (ci := 9) (v := .ref qSR) (C := RX9) (T := TX9) (N := 24) hx hb hts hin9 hown hK hP 0 rfl rfl 10 (by decide) hfl35 (fun _ h9 => h9) rfl dX9_isCorner_196 ?_
              refine lv_iload hx hb dX9_isCorner_199 (lv_at hl 0 rfl) ?_
              refine lv_iconst (v := 2) hx hb dX9_isCorner_201 (by decide) ?_
              refine lv_iadd hx hb dX9_isCorner_202 ?_
              obtain ⟨hi_14, hF⟩ := gd_in_s hF
              refine va_iald hx hb hK hP 9 0 rfl rfl hi_14 dX9_isCorner_203 ?_
              refine lv_imul hx hb dX9_isCorner_204 ?_
              refine lv_iadd hx hb dX9_isCorner_205 ?_
              refine lv_if_eq (tgt := 211) hx hb dX9_isCorner_206 (by decide) (fun c_15 => ?_) (fun c_15 => ?_)
              · replace hF := it_p c_15 hF
                exact hJ211 _ ih a1 a2 a3 a4 a5 a6 a7 a8 msx msy msw _ _ _ hF hP hD hS (lv_sub hl [1, 2, 3, 4, 5, 6, 7, 8, 9] rfl)
              · replace hF := it_n c_15 hF
                refine lv_iconst (v := 1) hx hb dX9_isCorner_209 (by decide) ?_
                exact W.zret (v := 1) hx hb hr (by first | rfl | (rcases hF with h | h <;> rw [h] <;> rfl)) (fun t ht hW => ⟨⟨1, (msx, msy, msw), rfl, ⟨congrArg Prod.fst (so_e hF), congrArg Prod.snd (so_e hF), (by first | exact Or.inl rfl | exact Or.inr rfl | assumption)⟩, qW_mk ht hP hK hW hD⟩, hS.F ht⟩) hS.2.2 dX9_isCorner_210
            · replace hF := it_p c_11 hF
              refine lv_iconst (v := 1) hx hb dX9_isCorner_86 (by decide) ?_
              refine lv_istore (lv' := [(4, .int 1), (9, .int ((360 * a1) + (4 * a8))), (0, .ref h0), (1, .int a1), (2, .int a2), (3, .int a3), (5, .int a5), (6, .int a6), (7, .int a7), (8, .int a8)]) hx hb dX9_isCorner_87 hl (by decide) rfl (fun ls hl => ?_)
              refine lv_aload_n hx hb dX9_isCorner_89 rfl (lv_at hl 2 rfl) ?_
              refine lv_aload_n hx hb dX9_isCorner_90 rfl (lv_at hl 2 rfl) ?_
              refine va_get (ci := 9) (v := .ref qSR) (C := RX9) (T := TX9) (N := 24) hx hb hts hin9 hown hK hP 0 rfl rfl 10 (by decide) hfl35 (fun _ h9 => h9) rfl dX9_isCorner_91 ?_
              refine lv_iload_n hx hb dX9_isCorner_94 rfl (lv_at hl 5 rfl) ?_
              obtain ⟨hi_16, hF⟩ := gd_in_s hF
              refine va_iald hx hb hK hP 9 0 rfl rfl hi_16 dX9_isCorner_95 ?_
              refine lv_aload_n hx hb dX9_isCorner_96 rfl (lv_at hl 2 rfl) ?_
              refine va_get (ci := 9) (v := .ref qSR) (C := RX9) (T := TX9) (N := 24) hx hb hts hin9 hown hK hP 0 rfl rfl 10 (by decide) hfl35 (fun _ h9 => h9) rfl dX9_isCorner_97 ?_
              refine lv_iload_n hx hb dX9_isCorner_100 rfl (lv_at hl 5 rfl) ?_
              refine lv_iconst (v := 1) hx hb dX9_isCorner_101 (by decide) ?_
              refine lv_iadd hx hb dX9_isCorner_102 ?_
              obtain ⟨hi_17, hF⟩ := gd_in_s hF
              refine va_iald hx hb hK hP 9 0 rfl rfl hi_17 dX9_isCorner_103 ?_
              refine lv_aload_n hx hb dX9_isCorner_104 rfl (lv_at hl 2 rfl) ?_
              refine va_get (ci := 9) (v := .ref qSR) (C := RX9) (T := TX9) (N := 24) hx hb hts hin9 hown hK hP 0 rfl rfl 10 (by decide) hfl35 (fun _ h9 => h9) rfl dX9_isCorner_105 ?_
              refine lv_iload_n hx hb dX9_isCorner_108 rfl (lv_at hl 5 rfl) ?_
              refine lv_iconst (v := 2) hx hb dX9_isCorner_109 (by decide) ?_
              refine lv_iadd hx hb dX9_isCorner_110 ?_
              obtain ⟨hi_18, hF⟩ := gd_in_s hF
              refine va_iald hx hb hK hP 9 0 rfl rfl hi_18 dX9_isCorner_111 ?_
              refine lv_aload_n hx hb dX9_isCorner_112 rfl (lv_at hl 2 rfl) ?_
              refine va_get (ci := 9) (v := .ref qSR) (C := RX9) (T := TX9) (N := 24) hx hb hts hin9 hown hK hP 0 rfl rfl 10 (by decide) hfl35 (fun _ h9 => h9) rfl dX9_isCorner_113 ?_
              refine lv_iload hx hb dX9_isCorner_116 (lv_at hl 1 rfl) ?_
              obtain ⟨hi_19, hF⟩ := gd_in_s hF
              refine va_iald hx hb hK hP 9 0 rfl rfl hi_19 dX9_isCorner_118 ?_
              refine lv_aload_n hx hb dX9_isCorner_119 rfl (lv_at hl 2 rfl) ?_
              refine va_get (ci := 9) (v := .ref qSR) (C := RX9) (T := TX9) (N := 24) hx hb hts hin9 hown hK hP 0 rfl rfl 10 (by decide) hfl35 (fun _ h9 => h9) rfl dX9_isCorner_120 ?_
              refine lv_iload hx hb dX9_isCorner_123 (lv_at hl 1 rfl) ?_
              refine lv_iconst (v := 1) hx hb dX9_isCorner_125 (by decide) ?_
              refine lv_iadd hx hb dX9_isCorner_126 ?_
              obtain ⟨hi_20, hF⟩ := gd_in_s hF
              refine va_iald hx hb hK hP 9 0 rfl rfl hi_20 dX9_isCorner_127 ?_
              refine lv_aload_n hx hb dX9_isCorner_128 rfl (lv_at hl 2 rfl) ?_
              refine va_get (ci := 9) (v := .ref qSR) (C := RX9) (T := TX9) (N := 24) hx hb hts hin9 hown hK hP 0 rfl rfl 10 (by decide) hfl35 (fun _ h9 => h9) rfl dX9_isCorner_129 ?_
              refine lv_iload hx hb dX9_isCorner_132 (lv_at hl 1 rfl) ?_
              refine lv_iconst (v := 2) hx hb dX9_isCorner_134 (by decide) ?_
              refine lv_iadd hx hb dX9_isCorner_135 ?_
              obtain ⟨hi_21, hF⟩ := gd_in_s hF
              refine va_iald hx hb hK hP 9 0 rfl rfl hi_21 dX9_isCorner_136 ?_
              obtain ⟨v_22, hv_22, hF⟩ := bd_s hF
              refine rw_ve (wf := (fun (u : Int32 × Int32 × Int32) => (wMod G h0 qDR qLA qLE qCE qFI qCO qCR qSI qSR qMO qBO qPX qPY qPZ qSX dr bo po u.1 u.2.1 u.2.2 tx ty tz DR LA LE CE FI CO CR SI SR MO BO PX PY PZ SX))) (wr := []) (va_runV (As := [.int (SR a3.toNatClampNeg), .int (SR (a3 + 1).toNatClampNeg), .int (SR (a3 + 2).toNatClampNeg), .int (SR ((360 * a1) + (4 * a8)).toNatClampNeg), .int (SR (((360 * a1) + (4 * a8)) + 1).toNatClampNeg), .int (SR (((360 * a1) + (4 * a8)) + 2).toNatClampNeg)]) (rest := []) ⟨hx, hb, hml, hown, hts⟩ (kX9_square l G h0 qDR qLA qLE qCE qFI qCO qCR qSI qSR qMO qBO qPX qPY qPZ qSX H.size dr bo po msx msy msw tx ty tz DR LA LE CE FI CO CR SI SR MO BO PX PY PZ SX (SR a3.toNatClampNeg) (SR (a3 + 1).toNatClampNeg) (SR (a3 + 2).toNatClampNeg) (SR ((360 * a1) + (4 * a8)).toNatClampNeg) (SR (((360 * a1) + (4 * a8)) + 1).toNatClampNeg) (SR (((360 * a1) + (4 * a8)) + 2).toNatClampNeg) v_22 hv_22) (cwV 6 hts gX9_isCorner_X9_square rfl rfl rfl (by decide +kernel) ⟨Nat.le_of_ble_eq_true rfl, Nat.le_of_ble_eq_true rfl⟩) (pvW (q0 := 0) 9 hK (hP.sub (ws' := (wMod G h0 qDR qLA qLE qCE qFI qCO qCR qSI qSR qMO qBO qPX qPY qPZ qSX dr bo po msx msy msw tx ty tz DR LA LE CE FI CO CR SI SR MO BO PX PY PZ SX)) [0, 1, 2, 3, 4, 5, 6, 7, 8, 9, 10, 11, 12, 13, 14, 15] rfl) (hD.sub (ws' := (wMod G h0 qDR qLA qLE qCE qFI qCO qCR qSI qSR qMO qBO qPX qPY qPZ qSX dr bo po msx msy msw tx ty tz DR LA LE CE FI CO CR SI SR MO BO PX PY PZ SX)) [0, 1, 2, 3, 4, 5, 6, 7, 8, 9, 10, 11, 12, 13, 14, 15] (by decide) rfl) rfl rfl) rfl rfl hl.1 rfl (lv_room (Nat.le_of_ble_eq_true rfl)) dX9_isCorner_137 ⟨Nat.le_of_ble_eq_true rfl, Nat.le_of_ble_eq_true rfl⟩) hP hD hS hA [0, 1, 2, 3, 4, 5, 6, 7, 8, 9, 10, 11, 12, 13, 14, 15] [] rfl rfl (by decide) (by decide) (fun H locs  hP hD hS => ?_)
              have hP : va_P (gD G) vwCl (wMod G h0 qDR qLA qLE qCE qFI qCO qCR qSI qSR qMO qBO qPX qPY qPZ qSX dr bo po v_22.1 v_22.2.1 v_22.2.2 tx ty tz DR LA LE CE FI CO CR SI SR MO BO PX PY PZ SX) H := hP.sub [0, 1, 2, 3, 4, 5, 6, 7, 8, 9, 10, 11, 12, 13, 14, 15] rfl
              have hD : va_D A (wMod G h0 qDR qLA qLE qCE qFI qCO qCR qSI qSR qMO qBO qPX qPY qPZ qSX dr bo po v_22.1 v_22.2.1 v_22.2.2 tx ty tz DR LA LE CE FI CO CR SI SR MO BO PX PY PZ SX) := hD.sub [0, 1, 2, 3, 4, 5, 6, 7, 8, 9, 10, 11, 12, 13, 14, 15] (by decide) rfl
              refine lv_aload_n hx hb dX9_isCorner_140 rfl (lv_at hl 2 rfl) ?_
              refine va_get (ci := 9) (v := .int v_22.1) (C := RX9) (T := TX9) (N := 24) hx hb hts hin9 hown hK hP 0 rfl rfl 17 (by decide) hfl85 (fun _ h9 => h9) rfl dX9_isCorner_141 ?_
              refine lv_istore (lv' := [(5, .int v_22.1), (4, .int 1), (9, .int ((360 * a1) + (4 * a8))), (0, .ref h0), (1, .int a1), (2, .int a2), (3, .int a3), (6, .int a6), (7, .int a7), (8, .int a8)]) hx hb dX9_isCorner_144 hl (by decide) rfl (fun ls hl => ?_)
              refine lv_aload_n hx hb dX9_isCorner_146 rfl (lv_at hl 3 rfl) ?_
              refine va_get (ci := 9) (v := .int v_22.2.1) (C := RX9) (T := TX9) (N := 24) hx hb hts hin9 hown hK hP 0 rfl rfl 18 (by decide) hfl88 (fun _ h9 => h9) rfl dX9_isCorner_147 ?_
              refine lv_istore (lv' := [(6, .int v_22.2.1), (5, .int v_22.1), (4, .int 1), (9, .int ((360 * a1) + (4 * a8))), (0, .ref h0), (1, .int a1), (2, .int a2), (3, .int a3), (7, .int a7), (8, .int a8)]) hx hb dX9_isCorner_150 hl (by decide) rfl (fun ls hl => ?_)
              refine lv_aload_n hx hb dX9_isCorner_152 rfl (lv_at hl 4 rfl) ?_
              refine va_get (ci := 9) (v := .int v_22.2.2) (C := RX9) (T := TX9) (N := 24) hx hb hts hin9 hown hK hP 0 rfl rfl 19 (by decide) hfl91 (fun _ h9 => h9) rfl dX9_isCorner_153 ?_
              refine lv_istore (lv' := [(7, .int v_22.2.2), (6, .int v_22.2.1), (5, .int v_22.1), (4, .int 1), (9, .int ((360 * a1) + (4 * a8))), (0, .ref h0), (1, .int a1), (2, .int a2), (3, .int a3), (8, .int a8)]) hx hb dX9_isCorner_156 hl (by decide) rfl (fun ls hl => ?_)
              refine lv_aload_n hx hb dX9_isCorner_158 rfl (lv_at hl 5 rfl) ?_
              refine va_get (ci := 9) (v := .ref qFI) (C := RX9) (T := TX9) (N := 24) hx hb hts hin9 hown hK hP 0 rfl rfl 6 (by decide) hfl23 (fun _ h9 => h9) rfl dX9_isCorner_159 ?_
              refine lv_iload_n hx hb dX9_isCorner_162 rfl (lv_at hl 6 rfl) ?_
              refine va_iald hx hb hK hP 5 0 rfl rfl hi_1 dX9_isCorner_163 ?_
              refine lv_iconst (v := 2) hx hb dX9_isCorner_164 (by decide) ?_
              refine lv_icmp_ne (tgt := 211) hx hb dX9_isCorner_165 (by decide) (fun c_23 => ?_) (fun c_23 => ?_)
              · replace hF := it_n c_23 hF
                exact hJ211 _ ih a1 a2 a3 1 v_22.1 v_22.2.1 v_22.2.2 a8 v_22.1 v_22.2.1 v_22.2.2 _ _ _ hF hP hD hS (lv_sub hl [5, 6, 7, 8, 3, 2, 1, 0, 9] rfl)
              · replace hF := it_p c_23 hF
                refine lv_iconst (v := 1) hx hb dX9_isCorner_168 (by decide) ?_
                exact W.zret (v := 1) hx hb hr (by first | rfl | (rcases hF with h | h <;> rw [h] <;> rfl)) (fun t ht hW => ⟨⟨1, (v_22.1, v_22.2.1, v_22.2.2), rfl, ⟨congrArg Prod.fst (so_e hF), congrArg Prod.snd (so_e hF), (by first | exact Or.inl rfl | exact Or.inr rfl | assumption)⟩, qW_mk ht hP hK hW hD⟩, hS.F ht⟩) hS.2.2 dX9_isCorner_169
          · replace hF := it_p c_10 hF
            refine lv_iload hx hb dX9_isCorner_75 (lv_at hl 0 rfl) ?_
            refine lv_istore_n (lv' := [(3, .int ((360 * a1) + (4 * a8))), (9, .int ((360 * a1) + (4 * a8))), (0, .ref h0), (1, .int a1), (2, .int a2), (4, .int a4), (5, .int a5), (6, .int a6), (7, .int a7), (8, .int a8)]) hx hb dX9_isCorner_77 rfl hl (by decide) rfl (fun ls hl => ?_)
            refine lv_goto (tgt := 211) hx hb dX9_isCorner_78 (by decide) ?_
            exact hJ211 _ ih a1 a2 ((360 * a1) + (4 * a8)) a4 a5 a6 a7 a8 msx msy msw _ _ _ hF hP hD hS (lv_sub hl [2, 3, 4, 0, 5, 6, 7, 8, 9] rfl)
  unfold fX9_isCorner at hF
  refine lv_bipush (v := (-4)) hx hb dX9_isCorner_0 (by decide) ?_
  refine lv_istore_n (lv' := [(3, .int (-4)), (0, .ref h0), (1, .int p1), (2, .int p2)]) hx hb dX9_isCorner_2 rfl hl (by decide) rfl (fun ls hl => ?_)
  refine lv_iconst (v := 0) hx hb dX9_isCorner_3 (by decide) ?_
  refine lv_istore (lv' := [(4, .int 0), (3, .int (-4)), (0, .ref h0), (1, .int p1), (2, .int p2)]) hx hb dX9_isCorner_4 hl (by decide) rfl (fun ls hl => ?_)
  refine lv_iconst (v := 0) hx hb dX9_isCorner_6 (by decide) ?_
  refine lv_istore (lv' := [(5, .int 0), (4, .int 0), (3, .int (-4)), (0, .ref h0), (1, .int p1), (2, .int p2)]) hx hb dX9_isCorner_7 hl (by decide) rfl (fun ls hl => ?_)
  refine lv_iconst (v := 0) hx hb dX9_isCorner_9 (by decide) ?_
  refine lv_istore (lv' := [(6, .int 0), (5, .int 0), (4, .int 0), (3, .int (-4)), (0, .ref h0), (1, .int p1), (2, .int p2)]) hx hb dX9_isCorner_10 hl (by decide) rfl (fun ls hl => ?_)
  refine lv_iconst (v := 0) hx hb dX9_isCorner_12 (by decide) ?_
  refine lv_istore (lv' := [(7, .int 0), (6, .int 0), (5, .int 0), (4, .int 0), (3, .int (-4)), (0, .ref h0), (1, .int p1), (2, .int p2)]) hx hb dX9_isCorner_13 hl (by decide) rfl (fun ls hl => ?_)
  refine lv_iconst (v := 0) hx hb dX9_isCorner_15 (by decide) ?_
  refine lv_istore (lv' := [(8, .int 0), (7, .int 0), (6, .int 0), (5, .int 0), (4, .int 0), (3, .int (-4)), (0, .ref h0), (1, .int p1), (2, .int p2)]) hx hb dX9_isCorner_16 hl (by decide) rfl (fun ls hl => ?_)
  exact hL18 FU p1 p2 (-4) 0 0 0 0 0 sx sy sw _ _ _ hF hP hD hS (lv_sub hl [6, 7, 8, 5, 4, 3, 2, 1, 0] rfl)
def JX9_made_418 (po : Int32) (PX : Nat → Int32) (PY : Nat → Int32) (PZ : Nat → Int32) (k333 : Int32 → Int32 → Int32 → Int32 → Int32 → Int32 → Int32 → (Nat → Int32) → (Nat → Int32) → (Nat → Int32) → (Nat → Int32) → (Nat → Int32) → (Nat → Int32) → (Nat → Int32) → Option (Int32 × Int32 × Int32 × Int32 × Int32 × (Nat → Int32) × (Nat → Int32) × (Nat → Int32) × (Nat → Int32) × (Nat → Int32) × (Nat → Int32) × (Nat → Int32))) (a1 : Int32) (a2 : Int32) (a3 : Int32) (mbo : Int32) (msx : Int32) (msy : Int32) (msw : Int32) (mFI : Nat → Int32) (mCO : Nat → Int32) (mCR : Nat → Int32) (mSI : Nat → Int32) (mSR : Nat → Int32) (mMO : Nat → Int32) (mBO : Nat → Int32) : Option (Int32 × Int32 × Int32 × Int32 × Int32 × (Nat → Int32) × (Nat → Int32) × (Nat → Int32) × (Nat → Int32) × (Nat → Int32) × (Nat → Int32) × (Nat → Int32)) :=
  (k333 a1 a2 (a3 + 1) mbo msx msy msw mFI mCO mCR mSI mSR mMO mBO)
def LX9_made_333 (po : Int32) (PX : Nat → Int32) (PY : Nat → Int32) (PZ : Nat → Int32)  : Nat → Int32 → Int32 → Int32 → Int32 → Int32 → Int32 → Int32 → (Nat → Int32) → (Nat → Int32) → (Nat → Int32) → (Nat → Int32) → (Nat → Int32) → (Nat → Int32) → (Nat → Int32) → Option (Int32 × Int32 × Int32 × Int32 × Int32 × (Nat → Int32) × (Nat → Int32) × (Nat → Int32) × (Nat → Int32) × (Nat → Int32) × (Nat → Int32) × (Nat → Int32))
  | 0, _, _, _, _, _, _, _, _, _, _, _, _, _, _ => none
  | k + 1, a1, a2, a3, mbo, msx, msy, msw, mFI, mCO, mCR, mSI, mSR, mMO, mBO =>
  (if po ≤ a3 then (gd_in a2 8 (some (a2, mbo + 1, msx, msy, msw, mFI, mCO, mCR, mSI, mSR, upd mMO a2.toNatClampNeg a1, mBO))) else (bd (fX9_isCorner msx msy msw mFI mSI mSR PX PY PZ a2 a3) (fun v_9 => (if v_9.1 = 0 then (JX9_made_418 po PX PY PZ (LX9_made_333 po PX PY PZ k) a1 a2 a3 mbo v_9.2.1 v_9.2.2.1 v_9.2.2.2 mFI mCO mCR mSI mSR mMO mBO) else (gd_in a2 8 (cut ((120 * a2) + (3 * (mCO a2.toNatClampNeg))) (fun c_13 => (gd_in a3 140 (gd_in c_13 960 (gd_in (c_13 + 1) 960 (gd_in (c_13 + 2) 960 (JX9_made_418 po PX PY PZ (LX9_made_333 po PX PY PZ k) a1 a2 a3 mbo v_9.2.1 v_9.2.2.1 v_9.2.2.2 mFI (upd mCO a2.toNatClampNeg ((mCO a2.toNatClampNeg) + 1)) (upd (upd (upd mCR c_13.toNatClampNeg (PX a3.toNatClampNeg)) (c_13 + 1).toNatClampNeg (PY a3.toNatClampNeg)) (c_13 + 2).toNatClampNeg (PZ a3.toNatClampNeg)) mSI mSR mMO mBO))))))))))))
def JX9_made_324 (po : Int32) (PX : Nat → Int32) (PY : Nat → Int32) (PZ : Nat → Int32)  (a1 : Int32) (a2 : Int32) (mbo : Int32) (msx : Int32) (msy : Int32) (msw : Int32) (mFI : Nat → Int32) (mCO : Nat → Int32) (mCR : Nat → Int32) (mSI : Nat → Int32) (mSR : Nat → Int32) (mMO : Nat → Int32) (mBO : Nat → Int32) : Option (Int32 × Int32 × Int32 × Int32 × Int32 × (Nat → Int32) × (Nat → Int32) × (Nat → Int32) × (Nat → Int32) × (Nat → Int32) × (Nat → Int32) × (Nat → Int32)) :=
  (gd_in a2 8 (LX9_made_333 po PX PY PZ FU a1 a2 0 mbo msx msy msw mFI (upd mCO a2.toNatClampNeg 0) mCR mSI mSR mMO mBO))
def JX9_made_212 (po : Int32) (PX : Nat → Int32) (PY : Nat → Int32) (PZ : Nat → Int32)  (a1 : Int32) (a2 : Int32) (mbo : Int32) (msx : Int32) (msy : Int32) (msw : Int32) (mFI : Nat → Int32) (mCO : Nat → Int32) (mCR : Nat → Int32) (mSI : Nat → Int32) (mSR : Nat → Int32) (mMO : Nat → Int32) (mBO : Nat → Int32) : Option (Int32 × Int32 × Int32 × Int32 × Int32 × (Nat → Int32) × (Nat → Int32) × (Nat → Int32) × (Nat → Int32) × (Nat → Int32) × (Nat → Int32) × (Nat → Int32)) :=
  (gd_in a2 8 (if mFI a2.toNatClampNeg = 1 then (gd_in (po - 1) 140 (gd_in 0 140 (bd (fX9_step msx msy msw ((PX (po - 1).toNatClampNeg) - (PX (0 : Int32).toNatClampNeg)) ((PY (po - 1).toNatClampNeg) - (PY (0 : Int32).toNatClampNeg)) ((PZ (po - 1).toNatClampNeg) - (PZ (0 : Int32).toNatClampNeg))) (fun v_20 => (bd (fX9_side po v_20.1 v_20.2.1 v_20.2.2 mSI mSR PX PY PZ a2 (po - 1)) (fun v_21 => (bd (fX9_side po (-v_20.1) (-v_20.2.1) (-v_20.2.2) v_21.1 v_21.2 PX PY PZ a2 0) (fun v_22 => (JX9_made_324 po PX PY PZ a1 a2 mbo (-v_20.1) (-v_20.2.1) (-v_20.2.2) mFI mCO mCR v_22.1 v_22.2 mMO mBO))))))))) else (JX9_made_324 po PX PY PZ a1 a2 mbo msx msy msw mFI mCO mCR mSI mSR mMO mBO)))
def JX9_made_194 (po : Int32) (PX : Nat → Int32) (PY : Nat → Int32) (PZ : Nat → Int32) (k153 : Int32 → Int32 → Int32 → Int32 → Int32 → Int32 → Int32 → Int32 → Int32 → (Nat → Int32) → (Nat → Int32) → (Nat → Int32) → (Nat → Int32) → (Nat → Int32) → (Nat → Int32) → (Nat → Int32) → Option (Int32 × Int32 × Int32 × Int32 × Int32 × (Nat → Int32) × (Nat → Int32) × (Nat → Int32) × (Nat → Int32) × (Nat → Int32) × (Nat → Int32) × (Nat → Int32))) (k200 : Int32 → Int32 → Int32 → Int32 → Int32 → Int32 → Int32 → Int32 → (Nat → Int32) → (Nat → Int32) → (Nat → Int32) → (Nat → Int32) → (Nat → Int32) → (Nat → Int32) → (Nat → Int32) → Option (Int32 × Int32 × Int32 × Int32 × Int32 × (Nat → Int32) × (Nat → Int32) × (Nat → Int32) × (Nat → Int32) × (Nat → Int32) × (Nat → Int32) × (Nat → Int32))) (a1 : Int32) (a2 : Int32) (a3 : Int32) (a4 : Int32) (a5 : Int32) (mbo : Int32) (msx : Int32) (msy : Int32) (msw : Int32) (mFI : Nat → Int32) (mCO : Nat → Int32) (mCR : Nat → Int32) (mSI : Nat → Int32) (mSR : Nat → Int32) (mMO : Nat → Int32) (mBO : Nat → Int32) : Option (Int32 × Int32 × Int32 × Int32 × Int32 × (Nat → Int32) × (Nat → Int32) × (Nat → Int32) × (Nat → Int32) × (Nat → Int32) × (Nat → Int32) × (Nat → Int32)) :=
  (k153 a1 a2 a3 a4 (a5 + 1) mbo msx msy msw mFI mCO mCR mSI mSR mMO mBO)
def LX9_made_153 (po : Int32) (PX : Nat → Int32) (PY : Nat → Int32) (PZ : Nat → Int32) (k200 : Int32 → Int32 → Int32 → Int32 → Int32 → Int32 → Int32 → Int32 → (Nat → Int32) → (Nat → Int32) → (Nat → Int32) → (Nat → Int32) → (Nat → Int32) → (Nat → Int32) → (Nat → Int32) → Option (Int32 × Int32 × Int32 × Int32 × Int32 × (Nat → Int32) × (Nat → Int32) × (Nat → Int32) × (Nat → Int32) × (Nat → Int32) × (Nat → Int32) × (Nat → Int32))) : Nat → Int32 → Int32 → Int32 → Int32 → Int32 → Int32 → Int32 → Int32 → Int32 → (Nat → Int32) → (Nat → Int32) → (Nat → Int32) → (Nat → Int32) → (Nat → Int32) → (Nat → Int32) → (Nat → Int32) → Option (Int32 × Int32 × Int32 × Int32 × Int32 × (Nat → Int32) × (Nat → Int32) × (Nat → Int32) × (Nat → Int32) × (Nat → Int32) × (Nat → Int32) × (Nat → Int32))
  | 0, _, _, _, _, _, _, _, _, _, _, _, _, _, _, _, _ => none
  | k + 1, a1, a2, a3, a4, a5, mbo, msx, msy, msw, mFI, mCO, mCR, mSI, mSR, mMO, mBO =>
  (if po ≤ a5 then (k200 a1 a2 a3 a4 mbo msx msy msw mFI mCO mCR mSI mSR mMO mBO) else (gd_in a2 8 (if mFI a2.toNatClampNeg = 3 then (bd (fX9_planeOf msx msy msw PX PY PZ a3 a4 a5) (fun v_31 => (bd (fX9_isNought v_31.1 v_31.2.1 v_31.2.2) (fun v_32 => (if v_32 = 0 then (bd (fX9_bothSides po v_31.1 v_31.2.1 v_31.2.2 mSI mSR PX PY PZ a2 a3) (fun v_35 => (JX9_made_194 po PX PY PZ (LX9_made_153 po PX PY PZ k200 k) k200 a1 a2 a3 a4 a5 mbo v_35.1 v_35.2.1 v_35.2.2.1 mFI mCO mCR v_35.2.2.2.1 v_35.2.2.2.2 mMO mBO))) else (JX9_made_194 po PX PY PZ (LX9_made_153 po PX PY PZ k200 k) k200 a1 a2 a3 a4 a5 mbo v_31.1 v_31.2.1 v_31.2.2 mFI mCO mCR mSI mSR mMO mBO)))))) else (k200 a1 a2 a3 a4 mbo msx msy msw mFI mCO mCR mSI mSR mMO mBO))))
def JX9_made_147 (po : Int32) (PX : Nat → Int32) (PY : Nat → Int32) (PZ : Nat → Int32) (k48 : Int32 → Int32 → Int32 → Int32 → Int32 → Int32 → Int32 → Int32 → (Nat → Int32) → (Nat → Int32) → (Nat → Int32) → (Nat → Int32) → (Nat → Int32) → (Nat → Int32) → (Nat → Int32) → Option (Int32 × Int32 × Int32 × Int32 × Int32 × (Nat → Int32) × (Nat → Int32) × (Nat → Int32) × (Nat → Int32) × (Nat → Int32) × (Nat → Int32) × (Nat → Int32))) (k206 : Int32 → Int32 → Int32 → Int32 → Int32 → Int32 → Int32 → (Nat → Int32) → (Nat → Int32) → (Nat → Int32) → (Nat → Int32) → (Nat → Int32) → (Nat → Int32) → (Nat → Int32) → Option (Int32 × Int32 × Int32 × Int32 × Int32 × (Nat → Int32) × (Nat → Int32) × (Nat → Int32) × (Nat → Int32) × (Nat → Int32) × (Nat → Int32) × (Nat → Int32))) (a1 : Int32) (a2 : Int32) (a3 : Int32) (a4 : Int32) (mbo : Int32) (msx : Int32) (msy : Int32) (msw : Int32) (mFI : Nat → Int32) (mCO : Nat → Int32) (mCR : Nat → Int32) (mSI : Nat → Int32) (mSR : Nat → Int32) (mMO : Nat → Int32) (mBO : Nat → Int32) : Option (Int32 × Int32 × Int32 × Int32 × Int32 × (Nat → Int32) × (Nat → Int32) × (Nat → Int32) × (Nat → Int32) × (Nat → Int32) × (Nat → Int32) × (Nat → Int32)) :=
  (LX9_made_153 po PX PY PZ (fun a1 a2 a3 a4 mbo msx msy msw mFI mCO mCR mSI mSR mMO mBO => (k48 a1 a2 a3 (a4 + 1) mbo msx msy msw mFI mCO mCR mSI mSR mMO mBO)) FU a1 a2 a3 a4 (a4 + 1) mbo msx msy msw mFI mCO mCR mSI mSR mMO mBO)
def LX9_made_48 (po : Int32) (PX : Nat → Int32) (PY : Nat → Int32) (PZ : Nat → Int32) (k206 : Int32 → Int32 → Int32 → Int32 → Int32 → Int32 → Int32 → (Nat → Int32) → (Nat → Int32) → (Nat → Int32) → (Nat → Int32) → (Nat → Int32) → (Nat → Int32) → (Nat → Int32) → Option (Int32 × Int32 × Int32 × Int32 × Int32 × (Nat → Int32) × (Nat → Int32) × (Nat → Int32) × (Nat → Int32) × (Nat → Int32) × (Nat → Int32) × (Nat → Int32))) : Nat → Int32 → Int32 → Int32 → Int32 → Int32 → Int32 → Int32 → Int32 → (Nat → Int32) → (Nat → Int32) → (Nat → Int32) → (Nat → Int32) → (Nat → Int32) → (Nat → Int32) → (Nat → Int32) → Option (Int32 × Int32 × Int32 × Int32 × Int32 × (Nat → Int32) × (Nat → Int32) × (Nat → Int32) × (Nat → Int32) × (Nat → Int32) × (Nat → Int32) × (Nat → Int32))
  | 0, _, _, _, _, _, _, _, _, _, _, _, _, _, _, _ => none
  | k + 1, a1, a2, a3, a4, mbo, msx, msy, msw, mFI, mCO, mCR, mSI, mSR, mMO, mBO =>
  (if po ≤ a4 then (k206 a1 a2 a3 mbo msx msy msw mFI mCO mCR mSI mSR mMO mBO) else (gd_in a2 8 (if mFI a2.toNatClampNeg = 2 then (gd_in a4 140 (gd_in a3 140 (gd_in (4 * a2) 32 (gd_in ((4 * a2) + 1) 32 (gd_in ((4 * a2) + 2) 32 (bd (fX9_square msx msy msw ((PX a4.toNatClampNeg) - (PX a3.toNatClampNeg)) ((PY a4.toNatClampNeg) - (PY a3.toNatClampNeg)) ((PZ a4.toNatClampNeg) - (PZ a3.toNatClampNeg)) (mBO (4 * a2).toNatClampNeg) (mBO ((4 * a2) + 1).toNatClampNeg) (mBO ((4 * a2) + 2).toNatClampNeg)) (fun v_41 => (bd (fX9_bothSides po v_41.1 v_41.2.1 v_41.2.2 mSI mSR PX PY PZ a2 a3) (fun v_42 => (JX9_made_147 po PX PY PZ (LX9_made_48 po PX PY PZ k206 k) k206 a1 a2 a3 a4 mbo v_42.1 v_42.2.1 v_42.2.2.1 mFI mCO mCR v_42.2.2.2.1 v_42.2.2.2.2 mMO mBO)))))))))) else (JX9_made_147 po PX PY PZ (LX9_made_48 po PX PY PZ k206 k) k206 a1 a2 a3 a4 mbo msx msy msw mFI mCO mCR mSI mSR mMO mBO))))
def LX9_made_25 (po : Int32) (PX : Nat → Int32) (PY : Nat → Int32) (PZ : Nat → Int32)  : Nat → Int32 → Int32 → Int32 → Int32 → Int32 → Int32 → Int32 → (Nat → Int32) → (Nat → Int32) → (Nat → Int32) → (Nat → Int32) → (Nat → Int32) → (Nat → Int32) → (Nat → Int32) → Option (Int32 × Int32 × Int32 × Int32 × Int32 × (Nat → Int32) × (Nat → Int32) × (Nat → Int32) × (Nat → Int32) × (Nat → Int32) × (Nat → Int32) × (Nat → Int32))
  | 0, _, _, _, _, _, _, _, _, _, _, _, _, _, _ => none
  | k + 1, a1, a2, a3, mbo, msx, msy, msw, mFI, mCO, mCR, mSI, mSR, mMO, mBO =>
  (if po ≤ a3 then (JX9_made_212 po PX PY PZ a1 a2 mbo msx msy msw mFI mCO mCR mSI mSR mMO mBO) else (gd_in a2 8 (if mFI a2.toNatClampNeg ≤ 1 then (JX9_made_212 po PX PY PZ a1 a2 mbo msx msy msw mFI mCO mCR mSI mSR mMO mBO) else (LX9_made_48 po PX PY PZ (fun a1 a2 a3 mbo msx msy msw mFI mCO mCR mSI mSR mMO mBO => (LX9_made_25 po PX PY PZ k a1 a2 (a3 + 1) mbo msx msy msw mFI mCO mCR mSI mSR mMO mBO)) FU a1 a2 a3 (a3 + 1) mbo msx msy msw mFI mCO mCR mSI mSR mMO mBO))))
def fX9_made (bo : Int32) (po : Int32) (sx : Int32) (sy : Int32) (sw : Int32) (FI : Nat → Int32) (CO : Nat → Int32) (CR : Nat → Int32) (SI : Nat → Int32) (SR : Nat → Int32) (MO : Nat → Int32) (BO : Nat → Int32) (PX : Nat → Int32) (PY : Nat → Int32) (PZ : Nat → Int32) (p1 : Int32) : Option (Int32 × Int32 × Int32 × Int32 × Int32 × (Nat → Int32) × (Nat → Int32) × (Nat → Int32) × (Nat → Int32) × (Nat → Int32) × (Nat → Int32) × (Nat → Int32)) :=
  (bd (fX9_filled po sx sy sw BO PX PY PZ bo) (fun v_1 => (gd_in bo 8 (LX9_made_25 po PX PY PZ FU p1 bo 0 bo v_1.2.1 v_1.2.2.1 v_1.2.2.2.1 (upd FI bo.toNatClampNeg v_1.1) CO CR (upd SI bo.toNatClampNeg 0) SR MO v_1.2.2.2.2))))
abbrev rX9_made : Room := { frames := 5, cells := 0, slots := 0, locals := 122 }
set_option maxHeartbeats 40000000 in
set_option maxRecDepth 100000 in
theorem kX9_made (l : Launch) (G : GT) (h0 qDR qLA qLE qCE qFI qCO qCR qSI qSR qMO qBO qPX qPY qPZ qSX : Nat) (sz : Nat) (dr : Int32) (bo : Int32) (po : Int32) (sx : Int32) (sy : Int32) (sw : Int32) (tx : Int32) (ty : Int32) (tz : Int32) (DR : Nat → Int32) (LA : Nat → Int32) (LE : Nat → Int32) (CE : Nat → Int64) (FI : Nat → Int32) (CO : Nat → Int32) (CR : Nat → Int32) (SI : Nat → Int32) (SR : Nat → Int32) (MO : Nat → Int32) (BO : Nat → Int32) (PX : Nat → Int32) (PY : Nat → Int32) (PZ : Nat → Int32) (SX : Nat → Int32) (p1 : Int32) (res : Int32 × Int32 × Int32 × Int32 × Int32 × (Nat → Int32) × (Nat → Int32) × (Nat → Int32) × (Nat → Int32) × (Nat → Int32) × (Nat → Int32) × (Nat → Int32)) (hF : fX9_made bo po sx sy sw FI CO CR SI SR MO BO PX PY PZ p1 = some res) : Met l yX9_made wsX9_made rX9_made (va_Pc [.ref h0, .int p1] (pW G sz (wMod G h0 qDR qLA qLE qCE qFI qCO qCR qSI qSR qMO qBO qPX qPY qPZ qSX dr bo po sx sy sw tx ty tz DR LA LE CE FI CO CR SI SR MO BO PX PY PZ SX))) (va_Qi (fun (r : Int32) (u : Int32 × Int32 × Int32 × Int32 × (Nat → Int32) × (Nat → Int32) × (Nat → Int32) × (Nat → Int32) × (Nat → Int32) × (Nat → Int32) × (Nat → Int32)) => r = res.1 ∧ u = res.2) (fun u t => qW G (va_A (wMod G h0 qDR qLA qLE qCE qFI qCO qCR qSI qSR qMO qBO qPX qPY qPZ qSX dr bo po sx sy sw tx ty tz DR LA LE CE FI CO CR SI SR MO BO PX PY PZ SX) sz) (wMod G h0 qDR qLA qLE qCE qFI qCO qCR qSI qSR qMO qBO qPX qPY qPZ qSX dr u.1 po u.2.1 u.2.2.1 u.2.2.2.1 tx ty tz DR LA LE CE u.2.2.2.2.1 u.2.2.2.2.2.1 u.2.2.2.2.2.2.1 u.2.2.2.2.2.2.2.1 u.2.2.2.2.2.2.2.2.1 u.2.2.2.2.2.2.2.2.2.1 u.2.2.2.2.2.2.2.2.2.2 PX PY PZ SX) t) (va_A (wMod G h0 qDR qLA qLE qCE qFI qCO qCR qSI qSR qMO qBO qPX qPY qPZ qSX dr bo po sx sy sw tx ty tz DR LA LE CE FI CO CR SI SR MO BO PX PY PZ SX) sz)) 0 0 (va_A (wMod G h0 qDR qLA qLE qCE qFI qCO qCR qSI qSR qMO qBO qPX qPY qPZ qSX dr bo po sx sy sw tx ty tz DR LA LE CE FI CO CR SI SR MO BO PX PY PZ SX) sz) := by
  refine Met.ofW (cc := cX9_made) (maxL := 6) (ret := (some .int)) (by decide) rfl ?_
  intro p e s m args below meth c s₁ B hml hv
  obtain ⟨rfl, hsz, hP, hK, hD0⟩ := hv
  have hx := B.exec
  have hb := B.bytes
  have hr := B.returns
  have hts := atoms_spec (ws := wsX9_made) B.pre
  have hown : s.vm.findClass RX9 = some m.cls := findClass_of_methodNamed B.named
  have hlocks := B.notSynchronized
  subst hsz
  have hD := hD0.self (sz := s.heap.size)
  generalize hAe : va_A (wMod G h0 qDR qLA qLE qCE qFI qCO qCR qSI qSR qMO qBO qPX qPY qPZ qSX dr bo po sx sy sw tx ty tz DR LA LE CE FI CO CR SI SR MO BO PX PY PZ SX) s.heap.size = A at hD ⊢
  have hA : ∀ q : Nat, s.heap.size ≤ q → A q := fun q h => by rw [← hAe]; exact Or.inr h
  have hS : va_S A s.heap s.heap [] := va_S.rf
  have hin9 : ∀ w ∈ u_ws RX9 TX9 24, w ∈ wsX9_made := by decide +kernel
  have hfl124 := hts (.fieldLink RX9 124 "SwellBodiesModel" "bodies" "I") (by decide +kernel)
  have hfl23 := hts (.fieldLink RX9 23 "SwellBodiesModel" "fills" "[I") (by decide +kernel)
  have hfl32 := hts (.fieldLink RX9 32 "SwellBodiesModel" "sides" "[I") (by decide +kernel)
  have hfl74 := hts (.fieldLink RX9 74 "SwellBodiesModel" "points" "I") (by decide +kernel)
  have hfl26 := hts (.fieldLink RX9 26 "SwellBodiesModel" "corners" "[I") (by decide +kernel)
  have hfl38 := hts (.fieldLink RX9 38 "SwellBodiesModel" "madeOf" "[I") (by decide +kernel)
  have hfl29 := hts (.fieldLink RX9 29 "SwellBodiesModel" "cornerRow" "[I") (by decide +kernel)
  have hfl44 := hts (.fieldLink RX9 44 "SwellBodiesModel" "px" "[I") (by decide +kernel)
  have hfl47 := hts (.fieldLink RX9 47 "SwellBodiesModel" "py" "[I") (by decide +kernel)
  have hfl50 := hts (.fieldLink RX9 50 "SwellBodiesModel" "pz" "[I") (by decide +kernel)
  have hfl85 := hts (.fieldLink RX9 85 "SwellBodiesModel" "sx" "I") (by decide +kernel)
  have hfl88 := hts (.fieldLink RX9 88 "SwellBodiesModel" "sy" "I") (by decide +kernel)
  have hfl91 := hts (.fieldLink RX9 91 "SwellBodiesModel" "sz" "I") (by decide +kernel)
  have hfl41 := hts (.fieldLink RX9 41 "SwellBodiesModel" "bond" "[I") (by decide +kernel)
  have hl := lv_entry ([.ref h0, .int p1]) (n := 6) (Nat.le_of_ble_eq_true rfl)
  rw [lg_entry_eq]
  generalize (lg_sl ([.ref h0, .int p1]) ++ List.replicate (6 - (lg_sl ([.ref h0, .int p1])).length) Slot.unset).toArray = ls at hl ⊢
  have hl : lv_has ls 6 [(0, .ref h0), (1, .int p1)] := hl
  have hJ418 : ∀ (k333 : Int32 → Int32 → Int32 → Int32 → Int32 → Int32 → Int32 → (Nat → Int32) → (Nat → Int32) → (Nat → Int32) → (Nat → Int32) → (Nat → Int32) → (Nat → Int32) → (Nat → Int32) → Option (Int32 × Int32 × Int32 × Int32 × Int32 × (Nat → Int32) × (Nat → Int32) × (Nat → Int32) × (Nat → Int32) × (Nat → Int32) × (Nat → Int32) × (Nat → Int32))), (∀ (a1 : Int32) (a2 : Int32) (a3 : Int32) (mbo : Int32) (msx : Int32) (msy : Int32) (msw : Int32) (mFI : Nat → Int32) (mCO : Nat → Int32) (mCR : Nat → Int32) (mSI : Nat → Int32) (mSR : Nat → Int32) (mMO : Nat → Int32) (mBO : Nat → Int32) (H : Heap) (locs : List Loc) (ls : Array Slot), k333 a1 a2 a3 mbo msx msy msw mFI mCO mCR mSI mSR mMO mBO = some res → va_P (gD G) vwCl (wMod G h0 qDR qLA qLE qCE qFI qCO qCR qSI qSR qMO qBO qPX qPY qPZ qSX dr mbo po msx msy msw tx ty tz DR LA LE CE mFI mCO mCR mSI mSR mMO mBO PX PY PZ SX) H → va_D A (wMod G h0 qDR qLA qLE qCE qFI qCO qCR qSI qSR qMO qBO qPX qPY qPZ qSX dr mbo po msx msy msw tx ty tz DR LA LE CE mFI mCO mCR mSI mSR mMO mBO PX PY PZ SX) → va_S A s.heap H locs → lv_has ls 6 [(0, .ref h0), (1, .int a1), (2, .int a2), (3, .int a3)] → W p l e (headSpec wsX9_made rX9_made).room s m ([.ref h0, .int p1] : List Value).toArray below meth c H locs 0 0 (MQ below (va_Qi (fun (r : Int32) (u : Int32 × Int32 × Int32 × Int32 × (Nat → Int32) × (Nat → Int32) × (Nat → Int32) × (Nat → Int32) × (Nat → Int32) × (Nat → Int32) × (Nat → Int32)) => r = res.1 ∧ u = res.2) (fun u t => qW G A (wMod G h0 qDR qLA qLE qCE qFI qCO qCR qSI qSR qMO qBO qPX qPY qPZ qSX dr u.1 po u.2.1 u.2.2.1 u.2.2.2.1 tx ty tz DR LA LE CE u.2.2.2.2.1 u.2.2.2.2.2.1 u.2.2.2.2.2.2.1 u.2.2.2.2.2.2.2.1 u.2.2.2.2.2.2.2.2.1 u.2.2.2.2.2.2.2.2.2.1 u.2.2.2.2.2.2.2.2.2.2 PX PY PZ SX) t) A) ([.ref h0, .int p1] : List Value).toArray s 0 0 A) (F0 m 333 ls [])) → ∀ (a1 : Int32) (a2 : Int32) (a3 : Int32) (mbo : Int32) (msx : Int32) (msy : Int32) (msw : Int32) (mFI : Nat → Int32) (mCO : Nat → Int32) (mCR : Nat → Int32) (mSI : Nat → Int32) (mSR : Nat → Int32) (mMO : Nat → Int32) (mBO : Nat → Int32) (H : Heap) (locs : List Loc) (ls : Array Slot), JX9_made_418 po PX PY PZ k333 a1 a2 a3 mbo msx msy msw mFI mCO mCR mSI mSR mMO mBO = some res → va_P (gD G) vwCl (wMod G h0 qDR qLA qLE qCE qFI qCO qCR qSI qSR qMO qBO qPX qPY qPZ qSX dr mbo po msx msy msw tx ty tz DR LA LE CE mFI mCO mCR mSI mSR mMO mBO PX PY PZ SX) H → va_D A (wMod G h0 qDR qLA qLE qCE qFI qCO qCR qSI qSR qMO qBO qPX qPY qPZ qSX dr mbo po msx msy msw tx ty tz DR LA LE CE mFI mCO mCR mSI mSR mMO mBO PX PY PZ SX) → va_S A s.heap H locs → lv_has ls 6 [(0, .ref h0), (1, .int a1), (2, .int a2), (3, .int a3)] → W p l e (headSpec wsX9_made rX9_made).room s m ([.ref h0, .int p1] : List Value).toArray below meth c H locs 0 0 (MQ below (va_Qi (fun (r : Int32) (u : Int32 × Int32 × Int32 × Int32 × (Nat → Int32) × (Nat → Int32) × (Nat → Int32) × (Nat → Int32) × (Nat → Int32) × (Nat → Int32) × (Nat → Int32)) => r = res.1 ∧ u = res.2) (fun u t => qW G A (wMod G h0 qDR qLA qLE qCE qFI qCO qCR qSI qSR qMO qBO qPX qPY qPZ qSX dr u.1 po u.2.1 u.2.2.1 u.2.2.2.1 tx ty tz DR LA LE CE u.2.2.2.2.1 u.2.2.2.2.2.1 u.2.2.2.2.2.2.1 u.2.2.2.2.2.2.2.1 u.2.2.2.2.2.2.2.2.1 u.2.2.2.2.2.2.2.2.2.1 u.2.2.2.2.2.2.2.2.2.2 PX PY PZ SX) t) A) ([.ref h0, .int p1] : List Value).toArray s 0 0 A) (F0 m 418 ls []) := by
    intro k333 hk333
    intro a1 a2 a3 mbo msx msy msw mFI mCO mCR mSI mSR mMO mBO H locs ls hF hP hD hS hl
    unfold JX9_made_418 at hF
    refine lv_iinc (v := a3 + 1) (lv' := [(3, .int (a3 + 1)), (0, .ref h0), (1, .int a1), (2, .int a2)]) hx hb dX9_made_418 hl (k := 3) rfl rfl (by decide) rfl (fun ls hl => ?_)
    refine lv_goto (tgt := 333) hx hb dX9_made_421 (by decide) ?_
    exact hk333 a1 a2 (a3 + 1) mbo msx msy msw mFI mCO mCR mSI mSR mMO mBO _ _ _ hF hP hD hS (lv_sub hl [1, 2, 3, 0] rfl)
  have hL333 : ∀ (k : Nat), ∀ (a1 : Int32) (a2 : Int32) (a3 : Int32) (mbo : Int32) (msx : Int32) (msy : Int32) (msw : Int32) (mFI : Nat → Int32) (mCO : Nat → Int32) (mCR : Nat → Int32) (mSI : Nat → Int32) (mSR : Nat → Int32) (mMO : Nat → Int32) (mBO : Nat → Int32) (H : Heap) (locs : List Loc) (ls : Array Slot), LX9_made_333 po PX PY PZ k a1 a2 a3 mbo msx msy msw mFI mCO mCR mSI mSR mMO mBO = some res → va_P (gD G) vwCl (wMod G h0 qDR qLA qLE qCE qFI qCO qCR qSI qSR qMO qBO qPX qPY qPZ qSX dr mbo po msx msy msw tx ty tz DR LA LE CE mFI mCO mCR mSI mSR mMO mBO PX PY PZ SX) H → va_D A (wMod G h0 qDR qLA qLE qCE qFI qCO qCR qSI qSR qMO qBO qPX qPY qPZ qSX dr mbo po msx msy msw tx ty tz DR LA LE CE mFI mCO mCR mSI mSR mMO mBO PX PY PZ SX) → va_S A s.heap H locs → lv_has ls 6 [(0, .ref h0), (1, .int a1), (2, .int a2), (3, .int a3)] → W p l e (headSpec wsX9_made rX9_made).room s m ([.ref h0, .int p1] : List Value).toArray below meth c H locs 0 0 (MQ below (va_Qi (fun (r : Int32) (u : Int32 × Int32 × Int32 × Int32 × (Nat → Int32) × (Nat → Int32) × (Nat → Int32) × (Nat → Int32) × (Nat → Int32) × (Nat → Int32) × (Nat → Int32)) => r = res.1 ∧ u = res.2) (fun u t => qW G A (wMod G h0 qDR qLA qLE qCE qFI qCO qCR qSI qSR qMO qBO qPX qPY qPZ qSX dr u.1 po u.2.1 u.2.2.1 u.2.2.2.1 tx ty tz DR LA LE CE u.2.2.2.2.1 u.2.2.2.2.2.1 u.2.2.2.2.2.2.1 u.2.2.2.2.2.2.2.1 u.2.2.2.2.2.2.2.2.1 u.2.2.2.2.2.2.2.2.2.1 u.2.2.2.2.2.2.2.2.2.2 PX PY PZ SX) t) A) ([.ref h0, .int p1] : List Value).toArray s 0 0 A) (F0 m 333 ls []) := by
    intro k
    induction k with
    | zero =>
      intro a1 a2 a3 mbo msx msy msw mFI mCO mCR mSI mSR mMO mBO H locs ls hF hP hD hS hl
      rw [LX9_made_333] at hF
      cases hF
    | succ k ih =>
      intro a1 a2 a3 mbo msx msy msw mFI mCO mCR mSI mSR mMO mBO H locs ls hF hP hD hS hl
      rw [LX9_made_333] at hF
      refine lv_iload_n hx hb dX9_made_333 rfl (lv_at hl 3 rfl) ?_
      refine lv_aload_n hx hb dX9_made_334 rfl (lv_at hl 0 rfl) ?_
      refine va_get (ci := 9) (v := .int po) (C := RX9) (T := TX9) (N := 24) hx hb hts hin9 hown hK hP 0 rfl rfl 13 (by decide) hfl74 (fun _ h9 => h9) rfl dX9_made_335 ?_
      refine lv_icmp_ge (tgt := 424) hx hb dX9_made_338 (by decide) (fun c_7 => ?_) (fun c_7 => ?_)
      · replace hF := it_p c_7 hF
        refine lv_aload_n hx hb dX9_made_424 rfl (lv_at hl 0 rfl) ?_
        refine va_get (ci := 9) (v := .ref qMO) (C := RX9) (T := TX9) (N := 24) hx hb hts hin9 hown hK hP 0 rfl rfl 11 (by decide) hfl38 (fun _ h9 => h9) rfl dX9_made_425 ?_
        refine lv_iload_n hx hb dX9_made_428 rfl (lv_at hl 2 rfl) ?_
        refine lv_iload_n hx hb dX9_made_429 rfl (lv_at hl 1 rfl) ?_
        obtain ⟨hi_8, hF⟩ := gd_in_s hF
        refine va_iast hx hb hK hP hD hS 10 0 rfl rfl hi_8 dX9_made_430 (fun H locs hP hD hS => ?_)
        have hP : va_P (gD G) vwCl (wMod G h0 qDR qLA qLE qCE qFI qCO qCR qSI qSR qMO qBO qPX qPY qPZ qSX dr mbo po msx msy msw tx ty tz DR LA LE CE mFI mCO mCR mSI mSR (upd mMO a2.toNatClampNeg a1) mBO PX PY PZ SX) H := hP
        have hD : va_D A (wMod G h0 qDR qLA qLE qCE qFI qCO qCR qSI qSR qMO qBO qPX qPY qPZ qSX dr mbo po msx msy msw tx ty tz DR LA LE CE mFI mCO mCR mSI mSR (upd mMO a2.toNatClampNeg a1) mBO PX PY PZ SX) := hD
        refine lv_aload_n hx hb dX9_made_431 rfl (lv_at hl 0 rfl) ?_
        refine lv_dup hx hb dX9_made_432 rfl ?_
        refine va_get (ci := 9) (v := .int mbo) (C := RX9) (T := TX9) (N := 24) hx hb hts hin9 hown hK hP 0 rfl rfl 5 (by decide) hfl124 (fun _ h9 => h9) rfl dX9_made_433 ?_
        refine lv_iconst (v := 1) hx hb dX9_made_436 (by decide) ?_
        refine lv_iadd hx hb dX9_made_437 ?_
        refine va_put (ci := 9) (v := .int (mbo + 1)) (ty := .int) (C := RX9) (T := TX9) (N := 24) hx hb hts hin9 tyX9 tyX9_ok nmX9 hown hK hP hD hS 0 rfl rfl 5 (by decide) hfl124 (fun _ h9 => h9) rfl (by decide +kernel) rfl rfl (Nat.le_of_ble_eq_true rfl) dX9_made_438 (fun H locs hP hD hS => ?_)
        have hP : va_P (gD G) vwCl (wMod G h0 qDR qLA qLE qCE qFI qCO qCR qSI qSR qMO qBO qPX qPY qPZ qSX dr (mbo + 1) po msx msy msw tx ty tz DR LA LE CE mFI mCO mCR mSI mSR (upd mMO a2.toNatClampNeg a1) mBO PX PY PZ SX) H := hP
        have hD : va_D A (wMod G h0 qDR qLA qLE qCE qFI qCO qCR qSI qSR qMO qBO qPX qPY qPZ qSX dr (mbo + 1) po msx msy msw tx ty tz DR LA LE CE mFI mCO mCR mSI mSR (upd mMO a2.toNatClampNeg a1) mBO PX PY PZ SX) := hD
        refine lv_iload_n hx hb dX9_made_441 rfl (lv_at hl 2 rfl) ?_
        exact W.iret (v := a2) hx hb hr  (fun t ht hW => ⟨⟨a2, (mbo + 1, msx, msy, msw, mFI, mCO, mCR, mSI, mSR, upd mMO a2.toNatClampNeg a1, mBO), rfl, ⟨congrArg Prod.fst (so_e hF), congrArg Prod.snd (so_e hF)⟩, qW_mk ht hP hK hW hD⟩, hS.F ht⟩) hS.2.2 dX9_made_442
      · replace hF := it_n c_7 hF
        refine lv_aload_n hx hb dX9_made_341 rfl (lv_at hl 0 rfl) ?_
        refine lv_iload_n hx hb dX9_made_342 rfl (lv_at hl 2 rfl) ?_
        refine lv_iload_n hx hb dX9_made_343 rfl (lv_at hl 3 rfl) ?_
        obtain ⟨v_9, hv_9, hF⟩ := bd_s hF
        refine rw_ze (wf := (fun (u : Int32 × Int32 × Int32) => (wMod G h0 qDR qLA qLE qCE qFI qCO qCR qSI qSR qMO qBO qPX qPY qPZ qSX dr mbo po u.1 u.2.1 u.2.2 tx ty tz DR LA LE CE mFI mCO mCR mSI mSR mMO mBO PX PY PZ SX))) (wr := []) (va_runV (As := [.int a2, .int a3]) (rest := []) ⟨hx, hb, hml, hown, hts⟩ (kX9_isCorner l G h0 qDR qLA qLE qCE qFI qCO qCR qSI qSR qMO qBO qPX qPY qPZ qSX H.size dr mbo po msx msy msw tx ty tz DR LA LE CE mFI mCO mCR mSI mSR mMO mBO PX PY PZ SX a2 a3 v_9 hv_9) (cwV 2 hts gX9_made_X9_isCorner rfl rfl rfl (by decide +kernel) ⟨Nat.le_of_ble_eq_true rfl, Nat.le_of_ble_eq_true rfl⟩) (pvW (q0 := 0) 9 hK (hP.sub (ws' := (wMod G h0 qDR qLA qLE qCE qFI qCO qCR qSI qSR qMO qBO qPX qPY qPZ qSX dr mbo po msx msy msw tx ty tz DR LA LE CE mFI mCO mCR mSI mSR mMO mBO PX PY PZ SX)) [0, 1, 2, 3, 4, 5, 6, 7, 8, 9, 10, 11, 12, 13, 14, 15] rfl) (hD.sub (ws' := (wMod G h0 qDR qLA qLE qCE qFI qCO qCR qSI qSR qMO qBO qPX qPY qPZ qSX dr mbo po msx msy msw tx ty tz DR LA LE CE mFI mCO mCR mSI mSR mMO mBO PX PY PZ SX)) [0, 1, 2, 3, 4, 5, 6, 7, 8, 9, 10, 11, 12, 13, 14, 15] (by decide) rfl) rfl rfl) rfl rfl hl.1 rfl (lv_room (Nat.le_of_ble_eq_true rfl)) dX9_made_344 ⟨Nat.le_of_ble_eq_true rfl, Nat.le_of_ble_eq_true rfl⟩) hP hD hS hA [0, 1, 2, 3, 4, 5, 6, 7, 8, 9, 10, 11, 12, 13, 14, 15] [] rfl rfl (by decide) (by decide) (fun H locs hb_10 hP hD hS => ?_)
        have hP : va_P (gD G) vwCl (wMod G h0 qDR qLA qLE qCE qFI qCO qCR qSI qSR qMO qBO qPX qPY qPZ qSX dr mbo po v_9.2.1 v_9.2.2.1 v_9.2.2.2 tx ty tz DR LA LE CE mFI mCO mCR mSI mSR mMO mBO PX PY PZ SX) H := hP.sub [0, 1, 2, 3, 4, 5, 6, 7, 8, 9, 10, 11, 12, 13, 14, 15] rfl
        have hD : va_D A (wMod G h0 qDR qLA qLE qCE qFI qCO qCR qSI qSR qMO qBO qPX qPY qPZ qSX dr mbo po v_9.2.1 v_9.2.2.1 v_9.2.2.2 tx ty tz DR LA LE CE mFI mCO mCR mSI mSR mMO mBO PX PY PZ SX) := hD.sub [0, 1, 2, 3, 4, 5, 6, 7, 8, 9, 10, 11, 12, 13, 14, 15] (by decide) rfl
        refine lv_if_eq (tgt := 418) hx hb dX9_made_347 (by decide) (fun c_11 => ?_) (fun c_11 => ?_)
        · replace hF := it_p c_11 hF
          exact hJ418 _ ih a1 a2 a3 mbo v_9.2.1 v_9.2.2.1 v_9.2.2.2 mFI mCO mCR mSI mSR mMO mBO _ _ _ hF hP hD hS (lv_sub hl [0, 1, 2, 3] rfl)
        · replace hF := it_n c_11 hF
          refine lv_bipush (v := 120) hx hb dX9_made_350 (by decide) ?_
          refine lv_iload_n hx hb dX9_made_352 rfl (lv_at hl 2 rfl) ?_
          refine lv_imul hx hb dX9_made_353 ?_
          refine lv_iconst (v := 3) hx hb dX9_made_354 (by decide) ?_
          refine lv_aload_n hx hb dX9_made_355 rfl (lv_at hl 0 rfl) ?_
          refine va_get (ci := 9) (v := .ref qCO) (C := RX9) (T := TX9) (N := 24) hx hb hts hin9 hown hK hP 0 rfl rfl 7 (by decide) hfl26 (fun _ h9 => h9) rfl dX9_made_356 ?_
          refine lv_iload_n hx hb dX9_made_359 rfl (lv_at hl 2 rfl) ?_
          obtain ⟨hi_12, hF⟩ := gd_in_s hF
          refine va_iald hx hb hK hP 6 0 rfl rfl hi_12 dX9_made_360 ?_
          refine lv_imul hx hb dX9_made_361 ?_
          refine lv_iadd hx hb dX9_made_362 ?_
          refine lv_topi (fun c_13 ec_13 => ?_)
          replace hF := cut_at ec_13 hF
          refine lv_istore (lv' := [(4, .int c_13), (0, .ref h0), (1, .int a1), (2, .int a2), (3, .int a3)]) hx hb dX9_made_363 hl (by decide) rfl (fun ls hl => ?_)
          refine lv_aload_n hx hb dX9_made_365 rfl (lv_at hl 1 rfl) ?_
          refine va_get (ci := 9) (v := .ref qCR) (C := RX9) (T := TX9) (N := 24) hx hb hts hin9 hown hK hP 0 rfl rfl 8 (by decide) hfl29 (fun _ h9 => h9) rfl dX9_made_366 ?_
          refine lv_iload hx hb dX9_made_369 (lv_at hl 0 rfl) ?_
          refine lv_aload_n hx hb dX9_made_371 rfl (lv_at hl 1 rfl) ?_
          refine va_get (ci := 9) (v := .ref qPX) (C := RX9) (T := TX9) (N := 24) hx hb hts hin9 hown hK hP 0 rfl rfl 14 (by decide) hfl44 (fun _ h9 => h9) rfl dX9_made_372 ?_
          refine lv_iload_n hx hb dX9_made_375 rfl (lv_at hl 4 rfl) ?_
          obtain ⟨hi_14, hF⟩ := gd_in_s hF
          refine va_iald hx hb hK hP 12 0 rfl rfl hi_14 dX9_made_376 ?_
          obtain ⟨hi_15, hF⟩ := gd_in_s hF
          refine va_iast hx hb hK hP hD hS 7 0 rfl rfl hi_15 dX9_made_377 (fun H locs hP hD hS => ?_)
          have hP : va_P (gD G) vwCl (wMod G h0 qDR qLA qLE qCE qFI qCO qCR qSI qSR qMO qBO qPX qPY qPZ qSX dr mbo po v_9.2.1 v_9.2.2.1 v_9.2.2.2 tx ty tz DR LA LE CE mFI mCO (upd mCR c_13.toNatClampNeg (PX a3.toNatClampNeg)) mSI mSR mMO mBO PX PY PZ SX) H := hP
          have hD : va_D A (wMod G h0 qDR qLA qLE qCE qFI qCO qCR qSI qSR qMO qBO qPX qPY qPZ qSX dr mbo po v_9.2.1 v_9.2.2.1 v_9.2.2.2 tx ty tz DR LA LE CE mFI mCO (upd mCR c_13.toNatClampNeg (PX a3.toNatClampNeg)) mSI mSR mMO mBO PX PY PZ SX) := hD
          refine lv_aload_n hx hb dX9_made_378 rfl (lv_at hl 1 rfl) ?_
          refine va_get (ci := 9) (v := .ref qCR) (C := RX9) (T := TX9) (N := 24) hx hb hts hin9 hown hK hP 0 rfl rfl 8 (by decide) hfl29 (fun _ h9 => h9) rfl dX9_made_379 ?_
          refine lv_iload hx hb dX9_made_382 (lv_at hl 0 rfl) ?_
          refine lv_iconst (v := 1) hx hb dX9_made_384 (by decide) ?_
          refine lv_iadd hx hb dX9_made_385 ?_
          refine lv_aload_n hx hb dX9_made_386 rfl (lv_at hl 1 rfl) ?_
          refine va_get (ci := 9) (v := .ref qPY) (C := RX9) (T := TX9) (N := 24) hx hb hts hin9 hown hK hP 0 rfl rfl 15 (by decide) hfl47 (fun _ h9 => h9) rfl dX9_made_387 ?_
          refine lv_iload_n hx hb dX9_made_390 rfl (lv_at hl 4 rfl) ?_
          refine va_iald hx hb hK hP 13 0 rfl rfl hi_14 dX9_made_391 ?_
          obtain ⟨hi_16, hF⟩ := gd_in_s hF
          refine va_iast hx hb hK hP hD hS 7 0 rfl rfl hi_16 dX9_made_392 (fun H locs hP hD hS => ?_)
          have hP : va_P (gD G) vwCl (wMod G h0 qDR qLA qLE qCE qFI qCO qCR qSI qSR qMO qBO qPX qPY qPZ qSX dr mbo po v_9.2.1 v_9.2.2.1 v_9.2.2.2 tx ty tz DR LA LE CE mFI mCO (upd (upd mCR c_13.toNatClampNeg (PX a3.toNatClampNeg)) (c_13 + 1).toNatClampNeg (PY a3.toNatClampNeg)) mSI mSR mMO mBO PX PY PZ SX) H := hP
          have hD : va_D A (wMod G h0 qDR qLA qLE qCE qFI qCO qCR qSI qSR qMO qBO qPX qPY qPZ qSX dr mbo po v_9.2.1 v_9.2.2.1 v_9.2.2.2 tx ty tz DR LA LE CE mFI mCO (upd (upd mCR c_13.toNatClampNeg (PX a3.toNatClampNeg)) (c_13 + 1).toNatClampNeg (PY a3.toNatClampNeg)) mSI mSR mMO mBO PX PY PZ SX) := hD
          refine lv_aload_n hx hb dX9_made_393 rfl (lv_at hl 1 rfl) ?_
          refine va_get (ci := 9) (v := .ref qCR) (C := RX9) (T := TX9) (N := 24) hx hb hts hin9 hown hK hP 0 rfl rfl 8 (by decide) hfl29 (fun _ h9 => h9) rfl dX9_made_394 ?_
          refine lv_iload hx hb dX9_made_397 (lv_at hl 0 rfl) ?_
          refine lv_iconst (v := 2) hx hb dX9_made_399 (by decide) ?_
          refine lv_iadd hx hb dX9_made_400 ?_
          refine lv_aload_n hx hb dX9_made_401 rfl (lv_at hl 1 rfl) ?_
          refine va_get (ci := 9) (v := .ref qPZ) (C := RX9) (T := TX9) (N := 24) hx hb hts hin9 hown hK hP 0 rfl rfl 16 (by decide) hfl50 (fun _ h9 => h9) rfl dX9_made_402 ?_
          refine lv_iload_n hx hb dX9_made_405 rfl (lv_at hl 4 rfl) ?_
          refine va_iald hx hb hK hP 14 0 rfl rfl hi_14 dX9_made_406 ?_
          obtain ⟨hi_17, hF⟩ := gd_in_s hF
          refine va_iast hx hb hK hP hD hS 7 0 rfl rfl hi_17 dX9_made_407 (fun H locs hP hD hS => ?_)
          have hP : va_P (gD G) vwCl (wMod G h0 qDR qLA qLE qCE qFI qCO qCR qSI qSR qMO qBO qPX qPY qPZ qSX dr mbo po v_9.2.1 v_9.2.2.1 v_9.2.2.2 tx ty tz DR LA LE CE mFI mCO (upd (upd (upd mCR c_13.toNatClampNeg (PX a3.toNatClampNeg)) (c_13 + 1).toNatClampNeg (PY a3.toNatClampNeg)) (c_13 + 2).toNatClampNeg (PZ a3.toNatClampNeg)) mSI mSR mMO mBO PX PY PZ SX) H := hP
          have hD : va_D A (wMod G h0 qDR qLA qLE qCE qFI qCO qCR qSI qSR qMO qBO qPX qPY qPZ qSX dr mbo po v_9.2.1 v_9.2.2.1 v_9.2.2.2 tx ty tz DR LA LE CE mFI mCO (upd (upd (upd mCR c_13.toNatClampNeg (PX a3.toNatClampNeg)) (c_13 + 1).toNatClampNeg (PY a3.toNatClampNeg)) (c_13 + 2).toNatClampNeg (PZ a3.toNatClampNeg)) mSI mSR mMO mBO PX PY PZ SX) := hD
          refine lv_aload_n hx hb dX9_made_408 rfl (lv_at hl 1 rfl) ?_
          refine va_get (ci := 9) (v := .ref qCO) (C := RX9) (T := TX9) (N := 24) hx hb hts hin9 hown hK hP 0 rfl rfl 7 (by decide) hfl26 (fun _ h9 => h9) rfl dX9_made_409 ?_
          refine lv_iload_n hx hb dX9_made_412 rfl (lv_at hl 3 rfl) ?_
          refine lv_dup2_11 hx hb dX9_made_413 rfl rfl ?_
          refine va_iald hx hb hK hP 6 0 rfl rfl hi_12 dX9_made_414 ?_
          refine lv_iconst (v := 1) hx hb dX9_made_415 (by decide) ?_
          refine lv_iadd hx hb dX9_made_416 ?_
          refine va_iast hx hb hK hP hD hS 6 0 rfl rfl hi_12 dX9_made_417 (fun H locs hP hD hS => ?_)
          have hP : va_P (gD G) vwCl (wMod G h0 qDR qLA qLE qCE qFI qCO qCR qSI qSR qMO qBO qPX qPY qPZ qSX dr mbo po v_9.2.1 v_9.2.2.1 v_9.2.2.2 tx ty tz DR LA LE CE mFI (upd mCO a2.toNatClampNeg ((mCO a2.toNatClampNeg) + 1)) (upd (upd (upd mCR c_13.toNatClampNeg (PX a3.toNatClampNeg)) (c_13 + 1).toNatClampNeg (PY a3.toNatClampNeg)) (c_13 + 2).toNatClampNeg (PZ a3.toNatClampNeg)) mSI mSR mMO mBO PX PY PZ SX) H := hP
          have hD : va_D A (wMod G h0 qDR qLA qLE qCE qFI qCO qCR qSI qSR qMO qBO qPX qPY qPZ qSX dr mbo po v_9.2.1 v_9.2.2.1 v_9.2.2.2 tx ty tz DR LA LE CE mFI (upd mCO a2.toNatClampNeg ((mCO a2.toNatClampNeg) + 1)) (upd (upd (upd mCR c_13.toNatClampNeg (PX a3.toNatClampNeg)) (c_13 + 1).toNatClampNeg (PY a3.toNatClampNeg)) (c_13 + 2).toNatClampNeg (PZ a3.toNatClampNeg)) mSI mSR mMO mBO PX PY PZ SX) := hD
          exact hJ418 _ ih a1 a2 a3 mbo v_9.2.1 v_9.2.2.1 v_9.2.2.2 mFI (upd mCO a2.toNatClampNeg ((mCO a2.toNatClampNeg) + 1)) (upd (upd (upd mCR c_13.toNatClampNeg (PX a3.toNatClampNeg)) (c_13 + 1).toNatClampNeg (PY a3.toNatClampNeg)) (c_13 + 2).toNatClampNeg (PZ a3.toNatClampNeg)) mSI mSR mMO mBO _ _ _ hF hP hD hS (lv_sub hl [1, 2, 3, 4] rfl)
  have hJ324 : ∀ (a1 : Int32) (a2 : Int32) (mbo : Int32) (msx : Int32) (msy : Int32) (msw : Int32) (mFI : Nat → Int32) (mCO : Nat → Int32) (mCR : Nat → Int32) (mSI : Nat → Int32) (mSR : Nat → Int32) (mMO : Nat → Int32) (mBO : Nat → Int32) (H : Heap) (locs : List Loc) (ls : Array Slot), JX9_made_324 po PX PY PZ a1 a2 mbo msx msy msw mFI mCO mCR mSI mSR mMO mBO = some res → va_P (gD G) vwCl (wMod G h0 qDR qLA qLE qCE qFI qCO qCR qSI qSR qMO qBO qPX qPY qPZ qSX dr mbo po msx msy msw tx ty tz DR LA LE CE mFI mCO mCR mSI mSR mMO mBO PX PY PZ SX) H → va_D A (wMod G h0 qDR qLA qLE qCE qFI qCO qCR qSI qSR qMO qBO qPX qPY qPZ qSX dr mbo po msx msy msw tx ty tz DR LA LE CE mFI mCO mCR mSI mSR mMO mBO PX PY PZ SX) → va_S A s.heap H locs → lv_has ls 6 [(0, .ref h0), (1, .int a1), (2, .int a2)] → W p l e (headSpec wsX9_made rX9_made).room s m ([.ref h0, .int p1] : List Value).toArray below meth c H locs 0 0 (MQ below (va_Qi (fun (r : Int32) (u : Int32 × Int32 × Int32 × Int32 × (Nat → Int32) × (Nat → Int32) × (Nat → Int32) × (Nat → Int32) × (Nat → Int32) × (Nat → Int32) × (Nat → Int32)) => r = res.1 ∧ u = res.2) (fun u t => qW G A (wMod G h0 qDR qLA qLE qCE qFI qCO qCR qSI qSR qMO qBO qPX qPY qPZ qSX dr u.1 po u.2.1 u.2.2.1 u.2.2.2.1 tx ty tz DR LA LE CE u.2.2.2.2.1 u.2.2.2.2.2.1 u.2.2.2.2.2.2.1 u.2.2.2.2.2.2.2.1 u.2.2.2.2.2.2.2.2.1 u.2.2.2.2.2.2.2.2.2.1 u.2.2.2.2.2.2.2.2.2.2 PX PY PZ SX) t) A) ([.ref h0, .int p1] : List Value).toArray s 0 0 A) (F0 m 324 ls []) := by
    intro a1 a2 mbo msx msy msw mFI mCO mCR mSI mSR mMO mBO H locs ls hF hP hD hS hl
    unfold JX9_made_324 at hF
    refine lv_aload_n hx hb dX9_made_324 rfl (lv_at hl 0 rfl) ?_
    refine va_get (ci := 9) (v := .ref qCO) (C := RX9) (T := TX9) (N := 24) hx hb hts hin9 hown hK hP 0 rfl rfl 7 (by decide) hfl26 (fun _ h9 => h9) rfl dX9_made_325 ?_
    refine lv_iload_n hx hb dX9_made_328 rfl (lv_at hl 2 rfl) ?_
    refine lv_iconst (v := 0) hx hb dX9_made_329 (by decide) ?_
    obtain ⟨hi_6, hF⟩ := gd_in_s hF
    refine va_iast hx hb hK hP hD hS 6 0 rfl rfl hi_6 dX9_made_330 (fun H locs hP hD hS => ?_)
    have hP : va_P (gD G) vwCl (wMod G h0 qDR qLA qLE qCE qFI qCO qCR qSI qSR qMO qBO qPX qPY qPZ qSX dr mbo po msx msy msw tx ty tz DR LA LE CE mFI (upd mCO a2.toNatClampNeg 0) mCR mSI mSR mMO mBO PX PY PZ SX) H := hP
    have hD : va_D A (wMod G h0 qDR qLA qLE qCE qFI qCO qCR qSI qSR qMO qBO qPX qPY qPZ qSX dr mbo po msx msy msw tx ty tz DR LA LE CE mFI (upd mCO a2.toNatClampNeg 0) mCR mSI mSR mMO mBO PX PY PZ SX) := hD
    refine lv_iconst (v := 0) hx hb dX9_made_331 (by decide) ?_
    refine lv_istore_n (lv' := [(3, .int 0), (0, .ref h0), (1, .int a1), (2, .int a2)]) hx hb dX9_made_332 rfl hl (by decide) rfl (fun ls hl => ?_)
    exact hL333 FU a1 a2 0 mbo msx msy msw mFI (upd mCO a2.toNatClampNeg 0) mCR mSI mSR mMO mBO _ _ _ hF hP hD hS (lv_sub hl [1, 2, 3, 0] rfl)
  have hJ212 : ∀ (a1 : Int32) (a2 : Int32) (mbo : Int32) (msx : Int32) (msy : Int32) (msw : Int32) (mFI : Nat → Int32) (mCO : Nat → Int32) (mCR : Nat → Int32) (mSI : Nat → Int32) (mSR : Nat → Int32) (mMO : Nat → Int32) (mBO : Nat → Int32) (H : Heap) (locs : List Loc) (ls : Array Slot), JX9_made_212 po PX PY PZ a1 a2 mbo msx msy msw mFI mCO mCR mSI mSR mMO mBO = some res → va_P (gD G) vwCl (wMod G h0 qDR qLA qLE qCE qFI qCO qCR qSI qSR qMO qBO qPX qPY qPZ qSX dr mbo po msx msy msw tx ty tz DR LA LE CE mFI mCO mCR mSI mSR mMO mBO PX PY PZ SX) H → va_D A (wMod G h0 qDR qLA qLE qCE qFI qCO qCR qSI qSR qMO qBO qPX qPY qPZ qSX dr mbo po msx msy msw tx ty tz DR LA LE CE mFI mCO mCR mSI mSR mMO mBO PX PY PZ SX) → va_S A s.heap H locs → lv_has ls 6 [(0, .ref h0), (1, .int a1), (2, .int a2)] → W p l e (headSpec wsX9_made rX9_made).room s m ([.ref h0, .int p1] : List Value).toArray below meth c H locs 0 0 (MQ below (va_Qi (fun (r : Int32) (u : Int32 × Int32 × Int32 × Int32 × (Nat → Int32) × (Nat → Int32) × (Nat → Int32) × (Nat → Int32) × (Nat → Int32) × (Nat → Int32) × (Nat → Int32)) => r = res.1 ∧ u = res.2) (fun u t => qW G A (wMod G h0 qDR qLA qLE qCE qFI qCO qCR qSI qSR qMO qBO qPX qPY qPZ qSX dr u.1 po u.2.1 u.2.2.1 u.2.2.2.1 tx ty tz DR LA LE CE u.2.2.2.2.1 u.2.2.2.2.2.1 u.2.2.2.2.2.2.1 u.2.2.2.2.2.2.2.1 u.2.2.2.2.2.2.2.2.1 u.2.2.2.2.2.2.2.2.2.1 u.2.2.2.2.2.2.2.2.2.2 PX PY PZ SX) t) A) ([.ref h0, .int p1] : List Value).toArray s 0 0 A) (F0 m 212 ls []) := by
    intro a1 a2 mbo msx msy msw mFI mCO mCR mSI mSR mMO mBO H locs ls hF hP hD hS hl
    unfold JX9_made_212 at hF
    refine lv_aload_n hx hb dX9_made_212 rfl (lv_at hl 0 rfl) ?_
    refine va_get (ci := 9) (v := .ref qFI) (C := RX9) (T := TX9) (N := 24) hx hb hts hin9 hown hK hP 0 rfl rfl 6 (by decide) hfl23 (fun _ h9 => h9) rfl dX9_made_213 ?_
    refine lv_iload_n hx hb dX9_made_216 rfl (lv_at hl 2 rfl) ?_
    obtain ⟨hi_4, hF⟩ := gd_in_s hF
    refine va_iald hx hb hK hP 5 0 rfl rfl hi_4 dX9_made_217 ?_
    refine lv_iconst (v := 1) hx hb dX9_made_218 (by decide) ?_
    refine lv_icmp_ne (tgt := 324) hx hb dX9_made_219 (by decide) (fun c_5 => ?_) (fun c_5 => ?_)
    · replace hF := it_n c_5 hF
      exact hJ324 a1 a2 mbo msx msy msw mFI mCO mCR mSI mSR mMO mBO _ _ _ hF hP hD hS (lv_sub hl [0, 1, 2] rfl)
    · replace hF := it_p c_5 hF
      refine lv_aload_n hx hb dX9_made_222 rfl (lv_at hl 0 rfl) ?_
      refine lv_aload_n hx hb dX9_made_223 rfl (lv_at hl 0 rfl) ?_
      refine va_get (ci := 9) (v := .ref qPX) (C := RX9) (T := TX9) (N := 24) hx hb hts hin9 hown hK hP 0 rfl rfl 14 (by decide) hfl44 (fun _ h9 => h9) rfl dX9_made_224 ?_
      refine lv_aload_n hx hb dX9_made_227 rfl (lv_at hl 0 rfl) ?_
      refine va_get (ci := 9) (v := .int po) (C := RX9) (T := TX9) (N := 24) hx hb hts hin9 hown hK hP 0 rfl rfl 13 (by decide) hfl74 (fun _ h9 => h9) rfl dX9_made_228 ?_
      refine lv_iconst (v := 1) hx hb dX9_made_231 (by decide) ?_
      refine lv_isub hx hb dX9_made_232 ?_
      obtain ⟨hi_18, hF⟩ := gd_in_s hF
      refine va_iald hx hb hK hP 12 0 rfl rfl hi_18 dX9_made_233 ?_
      refine lv_aload_n hx hb dX9_made_234 rfl (lv_at hl 0 rfl) ?_
      refine va_get (ci := 9) (v := .ref qPX) (C := RX9) (T := TX9) (N := 24) hx hb hts hin9 hown hK hP 0 rfl rfl 14 (by decide) hfl44 (fun _ h9 => h9) rfl dX9_made_235 ?_
      refine lv_iconst (v := 0) hx hb dX9_made_238 (by decide) ?_
      obtain ⟨hi_19, hF⟩ := gd_in_s hF
      refine va_iald hx hb hK hP 12 0 rfl rfl hi_19 dX9_made_239 ?_
      refine lv_isub hx hb dX9_made_240 ?_
      refine lv_aload_n hx hb dX9_made_241 rfl (lv_at hl 0 rfl) ?_
      refine va_get (ci := 9) (v := .ref qPY) (C := RX9) (T := TX9) (N := 24) hx hb hts hin9 hown hK hP 0 rfl rfl 15 (by decide) hfl47 (fun _ h9 => h9) rfl dX9_made_242 ?_
      refine lv_aload_n hx hb dX9_made_245 rfl (lv_at hl 0 rfl) ?_
      refine va_get (ci := 9) (v := .int po) (C := RX9) (T := TX9) (N := 24) hx hb hts hin9 hown hK hP 0 rfl rfl 13 (by decide) hfl74 (fun _ h9 => h9) rfl dX9_made_246 ?_
      refine lv_iconst (v := 1) hx hb dX9_made_249 (by decide) ?_
      refine lv_isub hx hb dX9_made_250 ?_
      refine va_iald hx hb hK hP 13 0 rfl rfl hi_18 dX9_made_251 ?_
      refine lv_aload_n hx hb dX9_made_252 rfl (lv_at hl 0 rfl) ?_
      refine va_get (ci := 9) (v := .ref qPY) (C := RX9) (T := TX9) (N := 24) hx hb hts hin9 hown hK hP 0 rfl rfl 15 (by decide) hfl47 (fun _ h9 => h9) rfl dX9_made_253 ?_
      refine lv_iconst (v := 0) hx hb dX9_made_256 (by decide) ?_
      refine va_iald hx hb hK hP 13 0 rfl rfl hi_19 dX9_made_257 ?_
      refine lv_isub hx hb dX9_made_258 ?_
      refine lv_aload_n hx hb dX9_made_259 rfl (lv_at hl 0 rfl) ?_
      refine va_get (ci := 9) (v := .ref qPZ) (C := RX9) (T := TX9) (N := 24) hx hb hts hin9 hown hK hP 0 rfl rfl 16 (by decide) hfl50 (fun _ h9 => h9) rfl dX9_made_260 ?_
      refine lv_aload_n hx hb dX9_made_263 rfl (lv_at hl 0 rfl) ?_
      refine va_get (ci := 9) (v := .int po) (C := RX9) (T := TX9) (N := 24) hx hb hts hin9 hown hK hP 0 rfl rfl 13 (by decide) hfl74 (fun _ h9 => h9) rfl dX9_made_264 ?_
      refine lv_iconst (v := 1) hx hb dX9_made_267 (by decide) ?_
      refine lv_isub hx hb dX9_made_268 ?_
      refine va_iald hx hb hK hP 14 0 rfl rfl hi_18 dX9_made_269 ?_
      refine lv_aload_n hx hb dX9_made_270 rfl (lv_at hl 0 rfl) ?_
      refine va_get (ci := 9) (v := .ref qPZ) (C := RX9) (T := TX9) (N := 24) hx hb hts hin9 hown hK hP 0 rfl rfl 16 (by decide) hfl50 (fun _ h9 => h9) rfl dX9_made_271 ?_
      refine lv_iconst (v := 0) hx hb dX9_made_274 (by decide) ?_
      refine va_iald hx hb hK hP 14 0 rfl rfl hi_19 dX9_made_275 ?_
      refine lv_isub hx hb dX9_made_276 ?_
      obtain ⟨v_20, hv_20, hF⟩ := bd_s hF
      refine rw_ve (wf := (fun (u : Int32 × Int32 × Int32) => (wMod G h0 qDR qLA qLE qCE qFI qCO qCR qSI qSR qMO qBO qPX qPY qPZ qSX dr mbo po u.1 u.2.1 u.2.2 tx ty tz DR LA LE CE mFI mCO mCR mSI mSR mMO mBO PX PY PZ SX))) (wr := []) (va_runV (As := [.int ((PX (po - 1).toNatClampNeg) - (PX (0 : Int32).toNatClampNeg)), .int ((PY (po - 1).toNatClampNeg) - (PY (0 : Int32).toNatClampNeg)), .int ((PZ (po - 1).toNatClampNeg) - (PZ (0 : Int32).toNatClampNeg))]) (rest := []) ⟨hx, hb, hml, hown, hts⟩ (kX9_step l G h0 qDR qLA qLE qCE qFI qCO qCR qSI qSR qMO qBO qPX qPY qPZ qSX H.size dr mbo po msx msy msw tx ty tz DR LA LE CE mFI mCO mCR mSI mSR mMO mBO PX PY PZ SX ((PX (po - 1).toNatClampNeg) - (PX (0 : Int32).toNatClampNeg)) ((PY (po - 1).toNatClampNeg) - (PY (0 : Int32).toNatClampNeg)) ((PZ (po - 1).toNatClampNeg) - (PZ (0 : Int32).toNatClampNeg)) v_20 hv_20) (cwV 3 hts gX9_made_X9_step rfl rfl rfl (by decide +kernel) ⟨Nat.le_of_ble_eq_true rfl, Nat.le_of_ble_eq_true rfl⟩) (pvW (q0 := 0) 9 hK (hP.sub (ws' := (wMod G h0 qDR qLA qLE qCE qFI qCO qCR qSI qSR qMO qBO qPX qPY qPZ qSX dr mbo po msx msy msw tx ty tz DR LA LE CE mFI mCO mCR mSI mSR mMO mBO PX PY PZ SX)) [0, 1, 2, 3, 4, 5, 6, 7, 8, 9, 10, 11, 12, 13, 14, 15] rfl) (hD.sub (ws' := (wMod G h0 qDR qLA qLE qCE qFI qCO qCR qSI qSR qMO qBO qPX qPY qPZ qSX dr mbo po msx msy msw tx ty tz DR LA LE CE mFI mCO mCR mSI mSR mMO mBO PX PY PZ SX)) [0, 1, 2, 3, 4, 5, 6, 7, 8, 9, 10, 11, 12, 13, 14, 15] (by decide) rfl) rfl rfl) rfl rfl hl.1 rfl (lv_room (Nat.le_of_ble_eq_true rfl)) dX9_made_277 ⟨Nat.le_of_ble_eq_true rfl, Nat.le_of_ble_eq_true rfl⟩) hP hD hS hA [0, 1, 2, 3, 4, 5, 6, 7, 8, 9, 10, 11, 12, 13, 14, 15] [] rfl rfl (by decide) (by decide) (fun H locs  hP hD hS => ?_)
      have hP : va_P (gD G) vwCl (wMod G h0 qDR qLA qLE qCE qFI qCO qCR qSI qSR qMO qBO qPX qPY qPZ qSX dr mbo po v_20.1 v_20.2.1 v_20.2.2 tx ty tz DR LA LE CE mFI mCO mCR mSI mSR mMO mBO PX PY PZ SX) H := hP.sub [0, 1, 2, 3, 4, 5, 6, 7, 8, 9, 10, 11, 12, 13, 14, 15] rfl
      have hD : va_D A (wMod G h0 qDR qLA qLE qCE qFI qCO qCR qSI qSR qMO qBO qPX qPY qPZ qSX dr mbo po v_20.1 v_20.2.1 v_20.2.2 tx ty tz DR LA LE CE mFI mCO mCR mSI mSR mMO mBO PX PY PZ SX) := hD.sub [0, 1, 2, 3, 4, 5, 6, 7, 8, 9, 10, 11, 12, 13, 14, 15] (by decide) rfl
      refine lv_aload_n hx hb dX9_made_280 rfl (lv_at hl 0 rfl) ?_
      refine lv_iload_n hx hb dX9_made_281 rfl (lv_at hl 2 rfl) ?_
      refine lv_aload_n hx hb dX9_made_282 rfl (lv_at hl 0 rfl) ?_
      refine va_get (ci := 9) (v := .int po) (C := RX9) (T := TX9) (N := 24) hx hb hts hin9 hown hK hP 0 rfl rfl 13 (by decide) hfl74 (fun _ h9 => h9) rfl dX9_made_283 ?_
      refine lv_iconst (v := 1) hx hb dX9_made_286 (by decide) ?_
      refine lv_isub hx hb dX9_made_287 ?_
      obtain ⟨v_21, hv_21, hF⟩ := bd_s hF
      refine rw_ve (wf := (fun (u : (Nat → Int32) × (Nat → Int32)) => (wMod G h0 qDR qLA qLE qCE qFI qCO qCR qSI qSR qMO qBO qPX qPY qPZ qSX dr mbo po v_20.1 v_20.2.1 v_20.2.2 tx ty tz DR LA LE CE mFI mCO mCR u.1 u.2 mMO mBO PX PY PZ SX))) (wr := []) (va_runV (As := [.int a2, .int (po - 1)]) (rest := []) ⟨hx, hb, hml, hown, hts⟩ (kX9_side l G h0 qDR qLA qLE qCE qFI qCO qCR qSI qSR qMO qBO qPX qPY qPZ qSX H.size dr mbo po v_20.1 v_20.2.1 v_20.2.2 tx ty tz DR LA LE CE mFI mCO mCR mSI mSR mMO mBO PX PY PZ SX a2 (po - 1) v_21 hv_21) (cwV 2 hts gX9_made_X9_side rfl rfl rfl (by decide +kernel) ⟨Nat.le_of_ble_eq_true rfl, Nat.le_of_ble_eq_true rfl⟩) (pvW (q0 := 0) 9 hK (hP.sub (ws' := (wMod G h0 qDR qLA qLE qCE qFI qCO qCR qSI qSR qMO qBO qPX qPY qPZ qSX dr mbo po v_20.1 v_20.2.1 v_20.2.2 tx ty tz DR LA LE CE mFI mCO mCR mSI mSR mMO mBO PX PY PZ SX)) [0, 1, 2, 3, 4, 5, 6, 7, 8, 9, 10, 11, 12, 13, 14, 15] rfl) (hD.sub (ws' := (wMod G h0 qDR qLA qLE qCE qFI qCO qCR qSI qSR qMO qBO qPX qPY qPZ qSX dr mbo po v_20.1 v_20.2.1 v_20.2.2 tx ty tz DR LA LE CE mFI mCO mCR mSI mSR mMO mBO PX PY PZ SX)) [0, 1, 2, 3, 4, 5, 6, 7, 8, 9, 10, 11, 12, 13, 14, 15] (by decide) rfl) rfl rfl) rfl rfl hl.1 rfl (lv_room (Nat.le_of_ble_eq_true rfl)) dX9_made_288 ⟨Nat.le_of_ble_eq_true rfl, Nat.le_of_ble_eq_true rfl⟩) hP hD hS hA [0, 1, 2, 3, 4, 5, 6, 7, 8, 9, 10, 11, 12, 13, 14, 15] [] rfl rfl (by decide) (by decide) (fun H locs  hP hD hS => ?_)
      have hP : va_P (gD G) vwCl (wMod G h0 qDR qLA qLE qCE qFI qCO qCR qSI qSR qMO qBO qPX qPY qPZ qSX dr mbo po v_20.1 v_20.2.1 v_20.2.2 tx ty tz DR LA LE CE mFI mCO mCR v_21.1 v_21.2 mMO mBO PX PY PZ SX) H := hP.sub [0, 1, 2, 3, 4, 5, 6, 7, 8, 9, 10, 11, 12, 13, 14, 15] rfl
      have hD : va_D A (wMod G h0 qDR qLA qLE qCE qFI qCO qCR qSI qSR qMO qBO qPX qPY qPZ qSX dr mbo po v_20.1 v_20.2.1 v_20.2.2 tx ty tz DR LA LE CE mFI mCO mCR v_21.1 v_21.2 mMO mBO PX PY PZ SX) := hD.sub [0, 1, 2, 3, 4, 5, 6, 7, 8, 9, 10, 11, 12, 13, 14, 15] (by decide) rfl
      refine lv_aload_n hx hb dX9_made_291 rfl (lv_at hl 0 rfl) ?_
      refine lv_aload_n hx hb dX9_made_292 rfl (lv_at hl 0 rfl) ?_
      refine va_get (ci := 9) (v := .int v_20.1) (C := RX9) (T := TX9) (N := 24) hx hb hts hin9 hown hK hP 0 rfl rfl 17 (by decide) hfl85 (fun _ h9 => h9) rfl dX9_made_293 ?_
      refine lv_ineg hx hb dX9_made_296 ?_
      refine va_put (ci := 9) (v := .int (-v_20.1)) (ty := .int) (C := RX9) (T := TX9) (N := 24) hx hb hts hin9 tyX9 tyX9_ok nmX9 hown hK hP hD hS 0 rfl rfl 17 (by decide) hfl85 (fun _ h9 => h9) rfl (by decide +kernel) rfl rfl (Nat.le_of_ble_eq_true rfl) dX9_made_297 (fun H locs hP hD hS => ?_)
      have hP : va_P (gD G) vwCl (wMod G h0 qDR qLA qLE qCE qFI qCO qCR qSI qSR qMO qBO qPX qPY qPZ qSX dr mbo po (-v_20.1) v_20.2.1 v_20.2.2 tx ty tz DR LA LE CE mFI mCO mCR v_21.1 v_21.2 mMO mBO PX PY PZ SX) H := hP
      have hD : va_D A (wMod G h0 qDR qLA qLE qCE qFI qCO qCR qSI qSR qMO qBO qPX qPY qPZ qSX dr mbo po (-v_20.1) v_20.2.1 v_20.2.2 tx ty tz DR LA LE CE mFI mCO mCR v_21.1 v_21.2 mMO mBO PX PY PZ SX) := hD
      refine lv_aload_n hx hb dX9_made_300 rfl (lv_at hl 0 rfl) ?_
      refine lv_aload_n hx hb dX9_made_301 rfl (lv_at hl 0 rfl) ?_
      refine va_get (ci := 9) (v := .int v_20.2.1) (C := RX9) (T := TX9) (N := 24) hx hb hts hin9 hown hK hP 0 rfl rfl 18 (by decide) hfl88 (fun _ h9 => h9) rfl dX9_made_302 ?_
      refine lv_ineg hx hb dX9_made_305 ?_
      refine va_put (ci := 9) (v := .int (-v_20.2.1)) (ty := .int) (C := RX9) (T := TX9) (N := 24) hx hb hts hin9 tyX9 tyX9_ok nmX9 hown hK hP hD hS 0 rfl rfl 18 (by decide) hfl88 (fun _ h9 => h9) rfl (by decide +kernel) rfl rfl (Nat.le_of_ble_eq_true rfl) dX9_made_306 (fun H locs hP hD hS => ?_)
      have hP : va_P (gD G) vwCl (wMod G h0 qDR qLA qLE qCE qFI qCO qCR qSI qSR qMO qBO qPX qPY qPZ qSX dr mbo po (-v_20.1) (-v_20.2.1) v_20.2.2 tx ty tz DR LA LE CE mFI mCO mCR v_21.1 v_21.2 mMO mBO PX PY PZ SX) H := hP
      have hD : va_D A (wMod G h0 qDR qLA qLE qCE qFI qCO qCR qSI qSR qMO qBO qPX qPY qPZ qSX dr mbo po (-v_20.1) (-v_20.2.1) v_20.2.2 tx ty tz DR LA LE CE mFI mCO mCR v_21.1 v_21.2 mMO mBO PX PY PZ SX) := hD
      refine lv_aload_n hx hb dX9_made_309 rfl (lv_at hl 0 rfl) ?_
      refine lv_aload_n hx hb dX9_made_310 rfl (lv_at hl 0 rfl) ?_
      refine va_get (ci := 9) (v := .int v_20.2.2) (C := RX9) (T := TX9) (N := 24) hx hb hts hin9 hown hK hP 0 rfl rfl 19 (by decide) hfl91 (fun _ h9 => h9) rfl dX9_made_311 ?_
      refine lv_ineg hx hb dX9_made_314 ?_
      refine va_put (ci := 9) (v := .int (-v_20.2.2)) (ty := .int) (C := RX9) (T := TX9) (N := 24) hx hb hts hin9 tyX9 tyX9_ok nmX9 hown hK hP hD hS 0 rfl rfl 19 (by decide) hfl91 (fun _ h9 => h9) rfl (by decide +kernel) rfl rfl (Nat.le_of_ble_eq_true rfl) dX9_made_315 (fun H locs hP hD hS => ?_)
      have hP : va_P (gD G) vwCl (wMod G h0 qDR qLA qLE qCE qFI qCO qCR qSI qSR qMO qBO qPX qPY qPZ qSX dr mbo po (-v_20.1) (-v_20.2.1) (-v_20.2.2) tx ty tz DR LA LE CE mFI mCO mCR v_21.1 v_21.2 mMO mBO PX PY PZ SX) H := hP
      have hD : va_D A (wMod G h0 qDR qLA qLE qCE qFI qCO qCR qSI qSR qMO qBO qPX qPY qPZ qSX dr mbo po (-v_20.1) (-v_20.2.1) (-v_20.2.2) tx ty tz DR LA LE CE mFI mCO mCR v_21.1 v_21.2 mMO mBO PX PY PZ SX) := hD
      refine lv_aload_n hx hb dX9_made_318 rfl (lv_at hl 0 rfl) ?_
      refine lv_iload_n hx hb dX9_made_319 rfl (lv_at hl 2 rfl) ?_
      refine lv_iconst (v := 0) hx hb dX9_made_320 (by decide) ?_
      obtain ⟨v_22, hv_22, hF⟩ := bd_s hF
      refine rw_ve (wf := (fun (u : (Nat → Int32) × (Nat → Int32)) => (wMod G h0 qDR qLA qLE qCE qFI qCO qCR qSI qSR qMO qBO qPX qPY qPZ qSX dr mbo po (-v_20.1) (-v_20.2.1) (-v_20.2.2) tx ty tz DR LA LE CE mFI mCO mCR u.1 u.2 mMO mBO PX PY PZ SX))) (wr := []) (va_runV (As := [.int a2, .int 0]) (rest := []) ⟨hx, hb, hml, hown, hts⟩ (kX9_side l G h0 qDR qLA qLE qCE qFI qCO qCR qSI qSR qMO qBO qPX qPY qPZ qSX H.size dr mbo po (-v_20.1) (-v_20.2.1) (-v_20.2.2) tx ty tz DR LA LE CE mFI mCO mCR v_21.1 v_21.2 mMO mBO PX PY PZ SX a2 0 v_22 hv_22) (cwV 2 hts gX9_made_X9_side rfl rfl rfl (by decide +kernel) ⟨Nat.le_of_ble_eq_true rfl, Nat.le_of_ble_eq_true rfl⟩) (pvW (q0 := 0) 9 hK (hP.sub (ws' := (wMod G h0 qDR qLA qLE qCE qFI qCO qCR qSI qSR qMO qBO qPX qPY qPZ qSX dr mbo po (-v_20.1) (-v_20.2.1) (-v_20.2.2) tx ty tz DR LA LE CE mFI mCO mCR v_21.1 v_21.2 mMO mBO PX PY PZ SX)) [0, 1, 2, 3, 4, 5, 6, 7, 8, 9, 10, 11, 12, 13, 14, 15] rfl) (hD.sub (ws' := (wMod G h0 qDR qLA qLE qCE qFI qCO qCR qSI qSR qMO qBO qPX qPY qPZ qSX dr mbo po (-v_20.1) (-v_20.2.1) (-v_20.2.2) tx ty tz DR LA LE CE mFI mCO mCR v_21.1 v_21.2 mMO mBO PX PY PZ SX)) [0, 1, 2, 3, 4, 5, 6, 7, 8, 9, 10, 11, 12, 13, 14, 15] (by decide) rfl) rfl rfl) rfl rfl hl.1 rfl (lv_room (Nat.le_of_ble_eq_true rfl)) dX9_made_321 ⟨Nat.le_of_ble_eq_true rfl, Nat.le_of_ble_eq_true rfl⟩) hP hD hS hA [0, 1, 2, 3, 4, 5, 6, 7, 8, 9, 10, 11, 12, 13, 14, 15] [] rfl rfl (by decide) (by decide) (fun H locs  hP hD hS => ?_)
      have hP : va_P (gD G) vwCl (wMod G h0 qDR qLA qLE qCE qFI qCO qCR qSI qSR qMO qBO qPX qPY qPZ qSX dr mbo po (-v_20.1) (-v_20.2.1) (-v_20.2.2) tx ty tz DR LA LE CE mFI mCO mCR v_22.1 v_22.2 mMO mBO PX PY PZ SX) H := hP.sub [0, 1, 2, 3, 4, 5, 6, 7, 8, 9, 10, 11, 12, 13, 14, 15] rfl
      have hD : va_D A (wMod G h0 qDR qLA qLE qCE qFI qCO qCR qSI qSR qMO qBO qPX qPY qPZ qSX dr mbo po (-v_20.1) (-v_20.2.1) (-v_20.2.2) tx ty tz DR LA LE CE mFI mCO mCR v_22.1 v_22.2 mMO mBO PX PY PZ SX) := hD.sub [0, 1, 2, 3, 4, 5, 6, 7, 8, 9, 10, 11, 12, 13, 14, 15] (by decide) rfl
      exact hJ324 a1 a2 mbo (-v_20.1) (-v_20.2.1) (-v_20.2.2) mFI mCO mCR v_22.1 v_22.2 mMO mBO _ _ _ hF hP hD hS (lv_sub hl [0, 1, 2] rfl)
  have hJ194 : ∀ (k153 : Int32 → Int32 → Int32 → Int32 → Int32 → Int32 → Int32 → Int32 → Int32 → (Nat → Int32) → (Nat → Int32) → (Nat → Int32) → (Nat → Int32) → (Nat → Int32) → (Nat → Int32) → (Nat → Int32) → Option (Int32 × Int32 × Int32 × Int32 × Int32 × (Nat → Int32) × (Nat → Int32) × (Nat → Int32) × (Nat → Int32) × (Nat → Int32) × (Nat → Int32) × (Nat → Int32))), (∀ (a1 : Int32) (a2 : Int32) (a3 : Int32) (a4 : Int32) (a5 : Int32) (mbo : Int32) (msx : Int32) (msy : Int32) (msw : Int32) (mFI : Nat → Int32) (mCO : Nat → Int32) (mCR : Nat → Int32) (mSI : Nat → Int32) (mSR : Nat → Int32) (mMO : Nat → Int32) (mBO : Nat → Int32) (H : Heap) (locs : List Loc) (ls : Array Slot), k153 a1 a2 a3 a4 a5 mbo msx msy msw mFI mCO mCR mSI mSR mMO mBO = some res → va_P (gD G) vwCl (wMod G h0 qDR qLA qLE qCE qFI qCO qCR qSI qSR qMO qBO qPX qPY qPZ qSX dr mbo po msx msy msw tx ty tz DR LA LE CE mFI mCO mCR mSI mSR mMO mBO PX PY PZ SX) H → va_D A (wMod G h0 qDR qLA qLE qCE qFI qCO qCR qSI qSR qMO qBO qPX qPY qPZ qSX dr mbo po msx msy msw tx ty tz DR LA LE CE mFI mCO mCR mSI mSR mMO mBO PX PY PZ SX) → va_S A s.heap H locs → lv_has ls 6 [(0, .ref h0), (1, .int a1), (2, .int a2), (3, .int a3), (4, .int a4), (5, .int a5)] → W p l e (headSpec wsX9_made rX9_made).room s m ([.ref h0, .int p1] : List Value).toArray below meth c H locs 0 0 (MQ below (va_Qi (fun (r : Int32) (u : Int32 × Int32 × Int32 × Int32 × (Nat → Int32) × (Nat → Int32) × (Nat → Int32) × (Nat → Int32) × (Nat → Int32) × (Nat → Int32) × (Nat → Int32)) => r = res.1 ∧ u = res.2) (fun u t => qW G A (wMod G h0 qDR qLA qLE qCE qFI qCO qCR qSI qSR qMO qBO qPX qPY qPZ qSX dr u.1 po u.2.1 u.2.2.1 u.2.2.2.1 tx ty tz DR LA LE CE u.2.2.2.2.1 u.2.2.2.2.2.1 u.2.2.2.2.2.2.1 u.2.2.2.2.2.2.2.1 u.2.2.2.2.2.2.2.2.1 u.2.2.2.2.2.2.2.2.2.1 u.2.2.2.2.2.2.2.2.2.2 PX PY PZ SX) t) A) ([.ref h0, .int p1] : List Value).toArray s 0 0 A) (F0 m 153 ls [])) → ∀ (k200 : Int32 → Int32 → Int32 → Int32 → Int32 → Int32 → Int32 → Int32 → (Nat → Int32) → (Nat → Int32) → (Nat → Int32) → (Nat → Int32) → (Nat → Int32) → (Nat → Int32) → (Nat → Int32) → Option (Int32 × Int32 × Int32 × Int32 × Int32 × (Nat → Int32) × (Nat → Int32) × (Nat → Int32) × (Nat → Int32) × (Nat → Int32) × (Nat → Int32) × (Nat → Int32))), (∀ (a1 : Int32) (a2 : Int32) (a3 : Int32) (a4 : Int32) (mbo : Int32) (msx : Int32) (msy : Int32) (msw : Int32) (mFI : Nat → Int32) (mCO : Nat → Int32) (mCR : Nat → Int32) (mSI : Nat → Int32) (mSR : Nat → Int32) (mMO : Nat → Int32) (mBO : Nat → Int32) (H : Heap) (locs : List Loc) (ls : Array Slot), k200 a1 a2 a3 a4 mbo msx msy msw mFI mCO mCR mSI mSR mMO mBO = some res → va_P (gD G) vwCl (wMod G h0 qDR qLA qLE qCE qFI qCO qCR qSI qSR qMO qBO qPX qPY qPZ qSX dr mbo po msx msy msw tx ty tz DR LA LE CE mFI mCO mCR mSI mSR mMO mBO PX PY PZ SX) H → va_D A (wMod G h0 qDR qLA qLE qCE qFI qCO qCR qSI qSR qMO qBO qPX qPY qPZ qSX dr mbo po msx msy msw tx ty tz DR LA LE CE mFI mCO mCR mSI mSR mMO mBO PX PY PZ SX) → va_S A s.heap H locs → lv_has ls 6 [(0, .ref h0), (1, .int a1), (2, .int a2), (3, .int a3), (4, .int a4)] → W p l e (headSpec wsX9_made rX9_made).room s m ([.ref h0, .int p1] : List Value).toArray below meth c H locs 0 0 (MQ below (va_Qi (fun (r : Int32) (u : Int32 × Int32 × Int32 × Int32 × (Nat → Int32) × (Nat → Int32) × (Nat → Int32) × (Nat → Int32) × (Nat → Int32) × (Nat → Int32) × (Nat → Int32)) => r = res.1 ∧ u = res.2) (fun u t => qW G A (wMod G h0 qDR qLA qLE qCE qFI qCO qCR qSI qSR qMO qBO qPX qPY qPZ qSX dr u.1 po u.2.1 u.2.2.1 u.2.2.2.1 tx ty tz DR LA LE CE u.2.2.2.2.1 u.2.2.2.2.2.1 u.2.2.2.2.2.2.1 u.2.2.2.2.2.2.2.1 u.2.2.2.2.2.2.2.2.1 u.2.2.2.2.2.2.2.2.2.1 u.2.2.2.2.2.2.2.2.2.2 PX PY PZ SX) t) A) ([.ref h0, .int p1] : List Value).toArray s 0 0 A) (F0 m 200 ls [])) → ∀ (a1 : Int32) (a2 : Int32) (a3 : Int32) (a4 : Int32) (a5 : Int32) (mbo : Int32) (msx : Int32) (msy : Int32) (msw : Int32) (mFI : Nat → Int32) (mCO : Nat → Int32) (mCR : Nat → Int32) (mSI : Nat → Int32) (mSR : Nat → Int32) (mMO : Nat → Int32) (mBO : Nat → Int32) (H : Heap) (locs : List Loc) (ls : Array Slot), JX9_made_194 po PX PY PZ k153 k200 a1 a2 a3 a4 a5 mbo msx msy msw mFI mCO mCR mSI mSR mMO mBO = some res → va_P (gD G) vwCl (wMod G h0 qDR qLA qLE qCE qFI qCO qCR qSI qSR qMO qBO qPX qPY qPZ qSX dr mbo po msx msy msw tx ty tz DR LA LE CE mFI mCO mCR mSI mSR mMO mBO PX PY PZ SX) H → va_D A (wMod G h0 qDR qLA qLE qCE qFI qCO qCR qSI qSR qMO qBO qPX qPY qPZ qSX dr mbo po msx msy msw tx ty tz DR LA LE CE mFI mCO mCR mSI mSR mMO mBO PX PY PZ SX) → va_S A s.heap H locs → lv_has ls 6 [(0, .ref h0), (1, .int a1), (2, .int a2), (3, .int a3), (4, .int a4), (5, .int a5)] → W p l e (headSpec wsX9_made rX9_made).room s m ([.ref h0, .int p1] : List Value).toArray below meth c H locs 0 0 (MQ below (va_Qi (fun (r : Int32) (u : Int32 × Int32 × Int32 × Int32 × (Nat → Int32) × (Nat → Int32) × (Nat → Int32) × (Nat → Int32) × (Nat → Int32) × (Nat → Int32) × (Nat → Int32)) => r = res.1 ∧ u = res.2) (fun u t => qW G A (wMod G h0 qDR qLA qLE qCE qFI qCO qCR qSI qSR qMO qBO qPX qPY qPZ qSX dr u.1 po u.2.1 u.2.2.1 u.2.2.2.1 tx ty tz DR LA LE CE u.2.2.2.2.1 u.2.2.2.2.2.1 u.2.2.2.2.2.2.1 u.2.2.2.2.2.2.2.1 u.2.2.2.2.2.2.2.2.1 u.2.2.2.2.2.2.2.2.2.1 u.2.2.2.2.2.2.2.2.2.2 PX PY PZ SX) t) A) ([.ref h0, .int p1] : List Value).toArray s 0 0 A) (F0 m 194 ls []) := by
    intro k153 hk153 k200 hk200
    intro a1 a2 a3 a4 a5 mbo msx msy msw mFI mCO mCR mSI mSR mMO mBO H locs ls hF hP hD hS hl
    unfold JX9_made_194 at hF
    refine lv_iinc (v := a5 + 1) (lv' := [(5, .int (a5 + 1)), (0, .ref h0), (1, .int a1), (2, .int a2), (3, .int a3), (4, .int a4)]) hx hb dX9_made_194 hl (k := 5) rfl rfl (by decide) rfl (fun ls hl => ?_)
    refine lv_goto (tgt := 153) hx hb dX9_made_197 (by decide) ?_
    exact hk153 a1 a2 a3 a4 (a5 + 1) mbo msx msy msw mFI mCO mCR mSI mSR mMO mBO _ _ _ hF hP hD hS (lv_sub hl [1, 2, 3, 4, 5, 0] rfl)
  have hL153 : ∀ (k200 : Int32 → Int32 → Int32 → Int32 → Int32 → Int32 → Int32 → Int32 → (Nat → Int32) → (Nat → Int32) → (Nat → Int32) → (Nat → Int32) → (Nat → Int32) → (Nat → Int32) → (Nat → Int32) → Option (Int32 × Int32 × Int32 × Int32 × Int32 × (Nat → Int32) × (Nat → Int32) × (Nat → Int32) × (Nat → Int32) × (Nat → Int32) × (Nat → Int32) × (Nat → Int32))), (∀ (a1 : Int32) (a2 : Int32) (a3 : Int32) (a4 : Int32) (mbo : Int32) (msx : Int32) (msy : Int32) (msw : Int32) (mFI : Nat → Int32) (mCO : Nat → Int32) (mCR : Nat → Int32) (mSI : Nat → Int32) (mSR : Nat → Int32) (mMO : Nat → Int32) (mBO : Nat → Int32) (H : Heap) (locs : List Loc) (ls : Array Slot), k200 a1 a2 a3 a4 mbo msx msy msw mFI mCO mCR mSI mSR mMO mBO = some res → va_P (gD G) vwCl (wMod G h0 qDR qLA qLE qCE qFI qCO qCR qSI qSR qMO qBO qPX qPY qPZ qSX dr mbo po msx msy msw tx ty tz DR LA LE CE mFI mCO mCR mSI mSR mMO mBO PX PY PZ SX) H → va_D A (wMod G h0 qDR qLA qLE qCE qFI qCO qCR qSI qSR qMO qBO qPX qPY qPZ qSX dr mbo po msx msy msw tx ty tz DR LA LE CE mFI mCO mCR mSI mSR mMO mBO PX PY PZ SX) → va_S A s.heap H locs → lv_has ls 6 [(0, .ref h0), (1, .int a1), (2, .int a2), (3, .int a3), (4, .int a4)] → W p l e (headSpec wsX9_made rX9_made).room s m ([.ref h0, .int p1] : List Value).toArray below meth c H locs 0 0 (MQ below (va_Qi (fun (r : Int32) (u : Int32 × Int32 × Int32 × Int32 × (Nat → Int32) × (Nat → Int32) × (Nat → Int32) × (Nat → Int32) × (Nat → Int32) × (Nat → Int32) × (Nat → Int32)) => r = res.1 ∧ u = res.2) (fun u t => qW G A (wMod G h0 qDR qLA qLE qCE qFI qCO qCR qSI qSR qMO qBO qPX qPY qPZ qSX dr u.1 po u.2.1 u.2.2.1 u.2.2.2.1 tx ty tz DR LA LE CE u.2.2.2.2.1 u.2.2.2.2.2.1 u.2.2.2.2.2.2.1 u.2.2.2.2.2.2.2.1 u.2.2.2.2.2.2.2.2.1 u.2.2.2.2.2.2.2.2.2.1 u.2.2.2.2.2.2.2.2.2.2 PX PY PZ SX) t) A) ([.ref h0, .int p1] : List Value).toArray s 0 0 A) (F0 m 200 ls [])) → ∀ (k : Nat), ∀ (a1 : Int32) (a2 : Int32) (a3 : Int32) (a4 : Int32) (a5 : Int32) (mbo : Int32) (msx : Int32) (msy : Int32) (msw : Int32) (mFI : Nat → Int32) (mCO : Nat → Int32) (mCR : Nat → Int32) (mSI : Nat → Int32) (mSR : Nat → Int32) (mMO : Nat → Int32) (mBO : Nat → Int32) (H : Heap) (locs : List Loc) (ls : Array Slot), LX9_made_153 po PX PY PZ k200 k a1 a2 a3 a4 a5 mbo msx msy msw mFI mCO mCR mSI mSR mMO mBO = some res → va_P (gD G) vwCl (wMod G h0 qDR qLA qLE qCE qFI qCO qCR qSI qSR qMO qBO qPX qPY qPZ qSX dr mbo po msx msy msw tx ty tz DR LA LE CE mFI mCO mCR mSI mSR mMO mBO PX PY PZ SX) H → va_D A (wMod G h0 qDR qLA qLE qCE qFI qCO qCR qSI qSR qMO qBO qPX qPY qPZ qSX dr mbo po msx msy msw tx ty tz DR LA LE CE mFI mCO mCR mSI mSR mMO mBO PX PY PZ SX) → va_S A s.heap H locs → lv_has ls 6 [(0, .ref h0), (1, .int a1), (2, .int a2), (3, .int a3), (4, .int a4), (5, .int a5)] → W p l e (headSpec wsX9_made rX9_made).room s m ([.ref h0, .int p1] : List Value).toArray below meth c H locs 0 0 (MQ below (va_Qi (fun (r : Int32) (u : Int32 × Int32 × Int32 × Int32 × (Nat → Int32) × (Nat → Int32) × (Nat → Int32) × (Nat → Int32) × (Nat → Int32) × (Nat → Int32) × (Nat → Int32)) => r = res.1 ∧ u = res.2) (fun u t => qW G A (wMod G h0 qDR qLA qLE qCE qFI qCO qCR qSI qSR qMO qBO qPX qPY qPZ qSX dr u.1 po u.2.1 u.2.2.1 u.2.2.2.1 tx ty tz DR LA LE CE u.2.2.2.2.1 u.2.2.2.2.2.1 u.2.2.2.2.2.2.1 u.2.2.2.2.2.2.2.1 u.2.2.2.2.2.2.2.2.1 u.2.2.2.2.2.2.2.2.2.1 u.2.2.2.2.2.2.2.2.2.2 PX PY PZ SX) t) A) ([.ref h0, .int p1] : List Value).toArray s 0 0 A) (F0 m 153 ls []) := by
    intro k200 hk200
    intro k
    induction k with
    | zero =>
      intro a1 a2 a3 a4 a5 mbo msx msy msw mFI mCO mCR mSI mSR mMO mBO H locs ls hF hP hD hS hl
      rw [LX9_made_153] at hF
      cases hF
    | succ k ih =>
      intro a1 a2 a3 a4 a5 mbo msx msy msw mFI mCO mCR mSI mSR mMO mBO H locs ls hF hP hD hS hl
      rw [LX9_made_153] at hF
      refine lv_iload hx hb dX9_made_153 (lv_at hl 5 rfl) ?_
      refine lv_aload_n hx hb dX9_made_155 rfl (lv_at hl 0 rfl) ?_
      refine va_get (ci := 9) (v := .int po) (C := RX9) (T := TX9) (N := 24) hx hb hts hin9 hown hK hP 0 rfl rfl 13 (by decide) hfl74 (fun _ h9 => h9) rfl dX9_made_156 ?_
      refine lv_icmp_ge (tgt := 200) hx hb dX9_made_159 (by decide) (fun c_28 => ?_) (fun c_28 => ?_)
      · replace hF := it_p c_28 hF
        exact hk200 a1 a2 a3 a4 mbo msx msy msw mFI mCO mCR mSI mSR mMO mBO _ _ _ hF hP hD hS (lv_sub hl [0, 1, 2, 3, 4] rfl)
      · replace hF := it_n c_28 hF
        refine lv_aload_n hx hb dX9_made_162 rfl (lv_at hl 0 rfl) ?_
        refine va_get (ci := 9) (v := .ref qFI) (C := RX9) (T := TX9) (N := 24) hx hb hts hin9 hown hK hP 0 rfl rfl 6 (by decide) hfl23 (fun _ h9 => h9) rfl dX9_made_163 ?_
        refine lv_iload_n hx hb dX9_made_166 rfl (lv_at hl 2 rfl) ?_
        obtain ⟨hi_29, hF⟩ := gd_in_s hF
        refine va_iald hx hb hK hP 5 0 rfl rfl hi_29 dX9_made_167 ?_
        refine lv_iconst (v := 3) hx hb dX9_made_168 (by decide) ?_
        refine lv_icmp_ne (tgt := 200) hx hb dX9_made_169 (by decide) (fun c_30 => ?_) (fun c_30 => ?_)
        · replace hF := it_n c_30 hF
          exact hk200 a1 a2 a3 a4 mbo msx msy msw mFI mCO mCR mSI mSR mMO mBO _ _ _ hF hP hD hS (lv_sub hl [0, 1, 2, 3, 4] rfl)
        · replace hF := it_p c_30 hF
          refine lv_aload_n hx hb dX9_made_172 rfl (lv_at hl 0 rfl) ?_
          refine lv_iload_n hx hb dX9_made_173 rfl (lv_at hl 3 rfl) ?_
          refine lv_iload hx hb dX9_made_174 (lv_at hl 4 rfl) ?_
          refine lv_iload hx hb dX9_made_176 (lv_at hl 5 rfl) ?_
          obtain ⟨v_31, hv_31, hF⟩ := bd_s hF
          refine rw_ve (wf := (fun (u : Int32 × Int32 × Int32) => (wMod G h0 qDR qLA qLE qCE qFI qCO qCR qSI qSR qMO qBO qPX qPY qPZ qSX dr mbo po u.1 u.2.1 u.2.2 tx ty tz DR LA LE CE mFI mCO mCR mSI mSR mMO mBO PX PY PZ SX))) (wr := []) (va_runV (As := [.int a3, .int a4, .int a5]) (rest := []) ⟨hx, hb, hml, hown, hts⟩ (kX9_planeOf l G h0 qDR qLA qLE qCE qFI qCO qCR qSI qSR qMO qBO qPX qPY qPZ qSX H.size dr mbo po msx msy msw tx ty tz DR LA LE CE mFI mCO mCR mSI mSR mMO mBO PX PY PZ SX a3 a4 a5 v_31 hv_31) (cwV 3 hts gX9_made_X9_planeOf rfl rfl rfl (by decide +kernel) ⟨Nat.le_of_ble_eq_true rfl, Nat.le_of_ble_eq_true rfl⟩) (pvW (q0 := 0) 9 hK (hP.sub (ws' := (wMod G h0 qDR qLA qLE qCE qFI qCO qCR qSI qSR qMO qBO qPX qPY qPZ qSX dr mbo po msx msy msw tx ty tz DR LA LE CE mFI mCO mCR mSI mSR mMO mBO PX PY PZ SX)) [0, 1, 2, 3, 4, 5, 6, 7, 8, 9, 10, 11, 12, 13, 14, 15] rfl) (hD.sub (ws' := (wMod G h0 qDR qLA qLE qCE qFI qCO qCR qSI qSR qMO qBO qPX qPY qPZ qSX dr mbo po msx msy msw tx ty tz DR LA LE CE mFI mCO mCR mSI mSR mMO mBO PX PY PZ SX)) [0, 1, 2, 3, 4, 5, 6, 7, 8, 9, 10, 11, 12, 13, 14, 15] (by decide) rfl) rfl rfl) rfl rfl hl.1 rfl (lv_room (Nat.le_of_ble_eq_true rfl)) dX9_made_178 ⟨Nat.le_of_ble_eq_true rfl, Nat.le_of_ble_eq_true rfl⟩) hP hD hS hA [0, 1, 2, 3, 4, 5, 6, 7, 8, 9, 10, 11, 12, 13, 14, 15] [] rfl rfl (by decide) (by decide) (fun H locs  hP hD hS => ?_)
          have hP : va_P (gD G) vwCl (wMod G h0 qDR qLA qLE qCE qFI qCO qCR qSI qSR qMO qBO qPX qPY qPZ qSX dr mbo po v_31.1 v_31.2.1 v_31.2.2 tx ty tz DR LA LE CE mFI mCO mCR mSI mSR mMO mBO PX PY PZ SX) H := hP.sub [0, 1, 2, 3, 4, 5, 6, 7, 8, 9, 10, 11, 12, 13, 14, 15] rfl
          have hD : va_D A (wMod G h0 qDR qLA qLE qCE qFI qCO qCR qSI qSR qMO qBO qPX qPY qPZ qSX dr mbo po v_31.1 v_31.2.1 v_31.2.2 tx ty tz DR LA LE CE mFI mCO mCR mSI mSR mMO mBO PX PY PZ SX) := hD.sub [0, 1, 2, 3, 4, 5, 6, 7, 8, 9, 10, 11, 12, 13, 14, 15] (by decide) rfl
          refine lv_aload_n hx hb dX9_made_181 rfl (lv_at hl 0 rfl) ?_
          obtain ⟨v_32, hv_32, hF⟩ := bd_s hF
          refine ro_ze (va_runV (As := []) (rest := []) ⟨hx, hb, hml, hown, hts⟩ (kX9_isNought l G h0 qDR qLA qLE qCE qFI qCO qCR qSI qSR qMO qBO qPX qPY qPZ qSX dr mbo po v_31.1 v_31.2.1 v_31.2.2 tx ty tz DR LA LE CE mFI mCO mCR mSI mSR mMO mBO PX PY PZ SX v_32 hv_32) (cwV 0 hts gX9_made_X9_isNought rfl rfl rfl (by decide +kernel) ⟨Nat.le_of_ble_eq_true rfl, Nat.le_of_ble_eq_true rfl⟩) (pvR (q0 := 0) 9 hK (hP.sub (ws' := (wMod G h0 qDR qLA qLE qCE qFI qCO qCR qSI qSR qMO qBO qPX qPY qPZ qSX dr mbo po v_31.1 v_31.2.1 v_31.2.2 tx ty tz DR LA LE CE mFI mCO mCR mSI mSR mMO mBO PX PY PZ SX)) [0, 1, 2, 3, 4, 5, 6, 7, 8, 9, 10, 11, 12, 13, 14, 15] rfl) rfl rfl) rfl rfl hl.1 rfl (lv_room (Nat.le_of_ble_eq_true rfl)) dX9_made_182 ⟨Nat.le_of_ble_eq_true rfl, Nat.le_of_ble_eq_true rfl⟩) (fun hb_33 => ?_)
          refine lv_if_ne (tgt := 194) hx hb dX9_made_185 (by decide) (fun c_34 => ?_) (fun c_34 => ?_)
          · replace hF := it_n c_34 hF
            exact hJ194 _ ih _ hk200 a1 a2 a3 a4 a5 mbo v_31.1 v_31.2.1 v_31.2.2 mFI mCO mCR mSI mSR mMO mBO _ _ _ hF hP hD hS (lv_sub hl [0, 1, 2, 3, 4, 5] rfl)
          · replace hF := it_p c_34 hF
            refine lv_aload_n hx hb dX9_made_188 rfl (lv_at hl 0 rfl) ?_
            refine lv_iload_n hx hb dX9_made_189 rfl (lv_at hl 2 rfl) ?_
            refine lv_iload_n hx hb dX9_made_190 rfl (lv_at hl 3 rfl) ?_
            obtain ⟨v_35, hv_35, hF⟩ := bd_s hF
            refine rw_ve (wf := (fun (u : Int32 × Int32 × Int32 × (Nat → Int32) × (Nat → Int32)) => (wMod G h0 qDR qLA qLE qCE qFI qCO qCR qSI qSR qMO qBO qPX qPY qPZ qSX dr mbo po u.1 u.2.1 u.2.2.1 tx ty tz DR LA LE CE mFI mCO mCR u.2.2.2.1 u.2.2.2.2 mMO mBO PX PY PZ SX))) (wr := []) (va_runV (As := [.int a2, .int a3]) (rest := []) ⟨hx, hb, hml, hown, hts⟩ (kX9_bothSides l G h0 qDR qLA qLE qCE qFI qCO qCR qSI qSR qMO qBO qPX qPY qPZ qSX H.size dr mbo po v_31.1 v_31.2.1 v_31.2.2 tx ty tz DR LA LE CE mFI mCO mCR mSI mSR mMO mBO PX PY PZ SX a2 a3 v_35 hv_35) (cwV 2 hts gX9_made_X9_bothSides rfl rfl rfl (by decide +kernel) ⟨Nat.le_of_ble_eq_true rfl, Nat.le_of_ble_eq_true rfl⟩) (pvW (q0 := 0) 9 hK (hP.sub (ws' := (wMod G h0 qDR qLA qLE qCE qFI qCO qCR qSI qSR qMO qBO qPX qPY qPZ qSX dr mbo po v_31.1 v_31.2.1 v_31.2.2 tx ty tz DR LA LE CE mFI mCO mCR mSI mSR mMO mBO PX PY PZ SX)) [0, 1, 2, 3, 4, 5, 6, 7, 8, 9, 10, 11, 12, 13, 14, 15] rfl) (hD.sub (ws' := (wMod G h0 qDR qLA qLE qCE qFI qCO qCR qSI qSR qMO qBO qPX qPY qPZ qSX dr mbo po v_31.1 v_31.2.1 v_31.2.2 tx ty tz DR LA LE CE mFI mCO mCR mSI mSR mMO mBO PX PY PZ SX)) [0, 1, 2, 3, 4, 5, 6, 7, 8, 9, 10, 11, 12, 13, 14, 15] (by decide) rfl) rfl rfl) rfl rfl hl.1 rfl (lv_room (Nat.le_of_ble_eq_true rfl)) dX9_made_191 ⟨Nat.le_of_ble_eq_true rfl, Nat.le_of_ble_eq_true rfl⟩) hP hD hS hA [0, 1, 2, 3, 4, 5, 6, 7, 8, 9, 10, 11, 12, 13, 14, 15] [] rfl rfl (by decide) (by decide) (fun H locs  hP hD hS => ?_)
            have hP : va_P (gD G) vwCl (wMod G h0 qDR qLA qLE qCE qFI qCO qCR qSI qSR qMO qBO qPX qPY qPZ qSX dr mbo po v_35.1 v_35.2.1 v_35.2.2.1 tx ty tz DR LA LE CE mFI mCO mCR v_35.2.2.2.1 v_35.2.2.2.2 mMO mBO PX PY PZ SX) H := hP.sub [0, 1, 2, 3, 4, 5, 6, 7, 8, 9, 10, 11, 12, 13, 14, 15] rfl
            have hD : va_D A (wMod G h0 qDR qLA qLE qCE qFI qCO qCR qSI qSR qMO qBO qPX qPY qPZ qSX dr mbo po v_35.1 v_35.2.1 v_35.2.2.1 tx ty tz DR LA LE CE mFI mCO mCR v_35.2.2.2.1 v_35.2.2.2.2 mMO mBO PX PY PZ SX) := hD.sub [0, 1, 2, 3, 4, 5, 6, 7, 8, 9, 10, 11, 12, 13, 14, 15] (by decide) rfl
            exact hJ194 _ ih _ hk200 a1 a2 a3 a4 a5 mbo v_35.1 v_35.2.1 v_35.2.2.1 mFI mCO mCR v_35.2.2.2.1 v_35.2.2.2.2 mMO mBO _ _ _ hF hP hD hS (lv_sub hl [0, 1, 2, 3, 4, 5] rfl)
  have hJ147 : ∀ (k48 : Int32 → Int32 → Int32 → Int32 → Int32 → Int32 → Int32 → Int32 → (Nat → Int32) → (Nat → Int32) → (Nat → Int32) → (Nat → Int32) → (Nat → Int32) → (Nat → Int32) → (Nat → Int32) → Option (Int32 × Int32 × Int32 × Int32 × Int32 × (Nat → Int32) × (Nat → Int32) × (Nat → Int32) × (Nat → Int32) × (Nat → Int32) × (Nat → Int32) × (Nat → Int32))), (∀ (a1 : Int32) (a2 : Int32) (a3 : Int32) (a4 : Int32) (mbo : Int32) (msx : Int32) (msy : Int32) (msw : Int32) (mFI : Nat → Int32) (mCO : Nat → Int32) (mCR : Nat → Int32) (mSI : Nat → Int32) (mSR : Nat → Int32) (mMO : Nat → Int32) (mBO : Nat → Int32) (H : Heap) (locs : List Loc) (ls : Array Slot), k48 a1 a2 a3 a4 mbo msx msy msw mFI mCO mCR mSI mSR mMO mBO = some res → va_P (gD G) vwCl (wMod G h0 qDR qLA qLE qCE qFI qCO qCR qSI qSR qMO qBO qPX qPY qPZ qSX dr mbo po msx msy msw tx ty tz DR LA LE CE mFI mCO mCR mSI mSR mMO mBO PX PY PZ SX) H → va_D A (wMod G h0 qDR qLA qLE qCE qFI qCO qCR qSI qSR qMO qBO qPX qPY qPZ qSX dr mbo po msx msy msw tx ty tz DR LA LE CE mFI mCO mCR mSI mSR mMO mBO PX PY PZ SX) → va_S A s.heap H locs → lv_has ls 6 [(0, .ref h0), (1, .int a1), (2, .int a2), (3, .int a3), (4, .int a4)] → W p l e (headSpec wsX9_made rX9_made).room s m ([.ref h0, .int p1] : List Value).toArray below meth c H locs 0 0 (MQ below (va_Qi (fun (r : Int32) (u : Int32 × Int32 × Int32 × Int32 × (Nat → Int32) × (Nat → Int32) × (Nat → Int32) × (Nat → Int32) × (Nat → Int32) × (Nat → Int32) × (Nat → Int32)) => r = res.1 ∧ u = res.2) (fun u t => qW G A (wMod G h0 qDR qLA qLE qCE qFI qCO qCR qSI qSR qMO qBO qPX qPY qPZ qSX dr u.1 po u.2.1 u.2.2.1 u.2.2.2.1 tx ty tz DR LA LE CE u.2.2.2.2.1 u.2.2.2.2.2.1 u.2.2.2.2.2.2.1 u.2.2.2.2.2.2.2.1 u.2.2.2.2.2.2.2.2.1 u.2.2.2.2.2.2.2.2.2.1 u.2.2.2.2.2.2.2.2.2.2 PX PY PZ SX) t) A) ([.ref h0, .int p1] : List Value).toArray s 0 0 A) (F0 m 48 ls [])) → ∀ (k206 : Int32 → Int32 → Int32 → Int32 → Int32 → Int32 → Int32 → (Nat → Int32) → (Nat → Int32) → (Nat → Int32) → (Nat → Int32) → (Nat → Int32) → (Nat → Int32) → (Nat → Int32) → Option (Int32 × Int32 × Int32 × Int32 × Int32 × (Nat → Int32) × (Nat → Int32) × (Nat → Int32) × (Nat → Int32) × (Nat → Int32) × (Nat → Int32) × (Nat → Int32))), (∀ (a1 : Int32) (a2 : Int32) (a3 : Int32) (mbo : Int32) (msx : Int32) (msy : Int32) (msw : Int32) (mFI : Nat → Int32) (mCO : Nat → Int32) (mCR : Nat → Int32) (mSI : Nat → Int32) (mSR : Nat → Int32) (mMO : Nat → Int32) (mBO : Nat → Int32) (H : Heap) (locs : List Loc) (ls : Array Slot), k206 a1 a2 a3 mbo msx msy msw mFI mCO mCR mSI mSR mMO mBO = some res → va_P (gD G) vwCl (wMod G h0 qDR qLA qLE qCE qFI qCO qCR qSI qSR qMO qBO qPX qPY qPZ qSX dr mbo po msx msy msw tx ty tz DR LA LE CE mFI mCO mCR mSI mSR mMO mBO PX PY PZ SX) H → va_D A (wMod G h0 qDR qLA qLE qCE qFI qCO qCR qSI qSR qMO qBO qPX qPY qPZ qSX dr mbo po msx msy msw tx ty tz DR LA LE CE mFI mCO mCR mSI mSR mMO mBO PX PY PZ SX) → va_S A s.heap H locs → lv_has ls 6 [(0, .ref h0), (1, .int a1), (2, .int a2), (3, .int a3)] → W p l e (headSpec wsX9_made rX9_made).room s m ([.ref h0, .int p1] : List Value).toArray below meth c H locs 0 0 (MQ below (va_Qi (fun (r : Int32) (u : Int32 × Int32 × Int32 × Int32 × (Nat → Int32) × (Nat → Int32) × (Nat → Int32) × (Nat → Int32) × (Nat → Int32) × (Nat → Int32) × (Nat → Int32)) => r = res.1 ∧ u = res.2) (fun u t => qW G A (wMod G h0 qDR qLA qLE qCE qFI qCO qCR qSI qSR qMO qBO qPX qPY qPZ qSX dr u.1 po u.2.1 u.2.2.1 u.2.2.2.1 tx ty tz DR LA LE CE u.2.2.2.2.1 u.2.2.2.2.2.1 u.2.2.2.2.2.2.1 u.2.2.2.2.2.2.2.1 u.2.2.2.2.2.2.2.2.1 u.2.2.2.2.2.2.2.2.2.1 u.2.2.2.2.2.2.2.2.2.2 PX PY PZ SX) t) A) ([.ref h0, .int p1] : List Value).toArray s 0 0 A) (F0 m 206 ls [])) → ∀ (a1 : Int32) (a2 : Int32) (a3 : Int32) (a4 : Int32) (mbo : Int32) (msx : Int32) (msy : Int32) (msw : Int32) (mFI : Nat → Int32) (mCO : Nat → Int32) (mCR : Nat → Int32) (mSI : Nat → Int32) (mSR : Nat → Int32) (mMO : Nat → Int32) (mBO : Nat → Int32) (H : Heap) (locs : List Loc) (ls : Array Slot), JX9_made_147 po PX PY PZ k48 k206 a1 a2 a3 a4 mbo msx msy msw mFI mCO mCR mSI mSR mMO mBO = some res → va_P (gD G) vwCl (wMod G h0 qDR qLA qLE qCE qFI qCO qCR qSI qSR qMO qBO qPX qPY qPZ qSX dr mbo po msx msy msw tx ty tz DR LA LE CE mFI mCO mCR mSI mSR mMO mBO PX PY PZ SX) H → va_D A (wMod G h0 qDR qLA qLE qCE qFI qCO qCR qSI qSR qMO qBO qPX qPY qPZ qSX dr mbo po msx msy msw tx ty tz DR LA LE CE mFI mCO mCR mSI mSR mMO mBO PX PY PZ SX) → va_S A s.heap H locs → lv_has ls 6 [(0, .ref h0), (1, .int a1), (2, .int a2), (3, .int a3), (4, .int a4)] → W p l e (headSpec wsX9_made rX9_made).room s m ([.ref h0, .int p1] : List Value).toArray below meth c H locs 0 0 (MQ below (va_Qi (fun (r : Int32) (u : Int32 × Int32 × Int32 × Int32 × (Nat → Int32) × (Nat → Int32) × (Nat → Int32) × (Nat → Int32) × (Nat → Int32) × (Nat → Int32) × (Nat → Int32)) => r = res.1 ∧ u = res.2) (fun u t => qW G A (wMod G h0 qDR qLA qLE qCE qFI qCO qCR qSI qSR qMO qBO qPX qPY qPZ qSX dr u.1 po u.2.1 u.2.2.1 u.2.2.2.1 tx ty tz DR LA LE CE u.2.2.2.2.1 u.2.2.2.2.2.1 u.2.2.2.2.2.2.1 u.2.2.2.2.2.2.2.1 u.2.2.2.2.2.2.2.2.1 u.2.2.2.2.2.2.2.2.2.1 u.2.2.2.2.2.2.2.2.2.2 PX PY PZ SX) t) A) ([.ref h0, .int p1] : List Value).toArray s 0 0 A) (F0 m 147 ls []) := by
    intro k48 hk48 k206 hk206
    intro a1 a2 a3 a4 mbo msx msy msw mFI mCO mCR mSI mSR mMO mBO H locs ls hF hP hD hS hl
    unfold JX9_made_147 at hF
    refine lv_iload hx hb dX9_made_147 (lv_at hl 4 rfl) ?_
    refine lv_iconst (v := 1) hx hb dX9_made_149 (by decide) ?_
    refine lv_iadd hx hb dX9_made_150 ?_
    refine lv_istore (lv' := [(5, .int (a4 + 1)), (0, .ref h0), (1, .int a1), (2, .int a2), (3, .int a3), (4, .int a4)]) hx hb dX9_made_151 hl (by decide) rfl (fun ls hl => ?_)
    refine hL153 _ ?_ FU a1 a2 a3 a4 (a4 + 1) mbo msx msy msw mFI mCO mCR mSI mSR mMO mBO _ _ _ hF hP hD hS (lv_sub hl [1, 2, 3, 4, 5, 0] rfl)
    · intro a1 a2 a3 a4 mbo msx msy msw mFI mCO mCR mSI mSR mMO mBO H locs ls hF hP hD hS hl
      refine lv_iinc (v := a4 + 1) (lv' := [(4, .int (a4 + 1)), (0, .ref h0), (1, .int a1), (2, .int a2), (3, .int a3)]) hx hb dX9_made_200 hl (k := 4) rfl rfl (by decide) rfl (fun ls hl => ?_)
      refine lv_goto (tgt := 48) hx hb dX9_made_203 (by decide) ?_
      exact hk48 a1 a2 a3 (a4 + 1) mbo msx msy msw mFI mCO mCR mSI mSR mMO mBO _ _ _ hF hP hD hS (lv_sub hl [1, 2, 3, 4, 0] rfl)
  have hL48 : ∀ (k206 : Int32 → Int32 → Int32 → Int32 → Int32 → Int32 → Int32 → (Nat → Int32) → (Nat → Int32) → (Nat → Int32) → (Nat → Int32) → (Nat → Int32) → (Nat → Int32) → (Nat → Int32) → Option (Int32 × Int32 × Int32 × Int32 × Int32 × (Nat → Int32) × (Nat → Int32) × (Nat → Int32) × (Nat → Int32) × (Nat → Int32) × (Nat → Int32) × (Nat → Int32))), (∀ (a1 : Int32) (a2 : Int32) (a3 : Int32) (mbo : Int32) (msx : Int32) (msy : Int32) (msw : Int32) (mFI : Nat → Int32) (mCO : Nat → Int32) (mCR : Nat → Int32) (mSI : Nat → Int32) (mSR : Nat → Int32) (mMO : Nat → Int32) (mBO : Nat → Int32) (H : Heap) (locs : List Loc) (ls : Array Slot), k206 a1 a2 a3 mbo msx msy msw mFI mCO mCR mSI mSR mMO mBO = some res → va_P (gD G) vwCl (wMod G h0 qDR qLA qLE qCE qFI qCO qCR qSI qSR qMO qBO qPX qPY qPZ qSX dr mbo po msx msy msw tx ty tz DR LA LE CE mFI mCO mCR mSI mSR mMO mBO PX PY PZ SX) H → va_D A (wMod G h0 qDR qLA qLE qCE qFI qCO qCR qSI qSR qMO qBO qPX qPY qPZ qSX dr mbo po msx msy msw tx ty tz DR LA LE CE mFI mCO mCR mSI mSR mMO mBO PX PY PZ SX) → va_S A s.heap H locs → lv_has ls 6 [(0, .ref h0), (1, .int a1), (2, .int a2), (3, .int a3)] → W p l e (headSpec wsX9_made rX9_made).room s m ([.ref h0, .int p1] : List Value).toArray below meth c H locs 0 0 (MQ below (va_Qi (fun (r : Int32) (u : Int32 × Int32 × Int32 × Int32 × (Nat → Int32) × (Nat → Int32) × (Nat → Int32) × (Nat → Int32) × (Nat → Int32) × (Nat → Int32) × (Nat → Int32)) => r = res.1 ∧ u = res.2) (fun u t => qW G A (wMod G h0 qDR qLA qLE qCE qFI qCO qCR qSI qSR qMO qBO qPX qPY qPZ qSX dr u.1 po u.2.1 u.2.2.1 u.2.2.2.1 tx ty tz DR LA LE CE u.2.2.2.2.1 u.2.2.2.2.2.1 u.2.2.2.2.2.2.1 u.2.2.2.2.2.2.2.1 u.2.2.2.2.2.2.2.2.1 u.2.2.2.2.2.2.2.2.2.1 u.2.2.2.2.2.2.2.2.2.2 PX PY PZ SX) t) A) ([.ref h0, .int p1] : List Value).toArray s 0 0 A) (F0 m 206 ls [])) → ∀ (k : Nat), ∀ (a1 : Int32) (a2 : Int32) (a3 : Int32) (a4 : Int32) (mbo : Int32) (msx : Int32) (msy : Int32) (msw : Int32) (mFI : Nat → Int32) (mCO : Nat → Int32) (mCR : Nat → Int32) (mSI : Nat → Int32) (mSR : Nat → Int32) (mMO : Nat → Int32) (mBO : Nat → Int32) (H : Heap) (locs : List Loc) (ls : Array Slot), LX9_made_48 po PX PY PZ k206 k a1 a2 a3 a4 mbo msx msy msw mFI mCO mCR mSI mSR mMO mBO = some res → va_P (gD G) vwCl (wMod G h0 qDR qLA qLE qCE qFI qCO qCR qSI qSR qMO qBO qPX qPY qPZ qSX dr mbo po msx msy msw tx ty tz DR LA LE CE mFI mCO mCR mSI mSR mMO mBO PX PY PZ SX) H → va_D A (wMod G h0 qDR qLA qLE qCE qFI qCO qCR qSI qSR qMO qBO qPX qPY qPZ qSX dr mbo po msx msy msw tx ty tz DR LA LE CE mFI mCO mCR mSI mSR mMO mBO PX PY PZ SX) → va_S A s.heap H locs → lv_has ls 6 [(0, .ref h0), (1, .int a1), (2, .int a2), (3, .int a3), (4, .int a4)] → W p l e (headSpec wsX9_made rX9_made).room s m ([.ref h0, .int p1] : List Value).toArray below meth c H locs 0 0 (MQ below (va_Qi (fun (r : Int32) (u : Int32 × Int32 × Int32 × Int32 × (Nat → Int32) × (Nat → Int32) × (Nat → Int32) × (Nat → Int32) × (Nat → Int32) × (Nat → Int32) × (Nat → Int32)) => r = res.1 ∧ u = res.2) (fun u t => qW G A (wMod G h0 qDR qLA qLE qCE qFI qCO qCR qSI qSR qMO qBO qPX qPY qPZ qSX dr u.1 po u.2.1 u.2.2.1 u.2.2.2.1 tx ty tz DR LA LE CE u.2.2.2.2.1 u.2.2.2.2.2.1 u.2.2.2.2.2.2.1 u.2.2.2.2.2.2.2.1 u.2.2.2.2.2.2.2.2.1 u.2.2.2.2.2.2.2.2.2.1 u.2.2.2.2.2.2.2.2.2.2 PX PY PZ SX) t) A) ([.ref h0, .int p1] : List Value).toArray s 0 0 A) (F0 m 48 ls []) := by
    intro k206 hk206
    intro k
    induction k with
    | zero =>
      intro a1 a2 a3 a4 mbo msx msy msw mFI mCO mCR mSI mSR mMO mBO H locs ls hF hP hD hS hl
      rw [LX9_made_48] at hF
      cases hF
    | succ k ih =>
      intro a1 a2 a3 a4 mbo msx msy msw mFI mCO mCR mSI mSR mMO mBO H locs ls hF hP hD hS hl
      rw [LX9_made_48] at hF
      refine lv_iload hx hb dX9_made_48 (lv_at hl 4 rfl) ?_
      refine lv_aload_n hx hb dX9_made_50 rfl (lv_at hl 0 rfl) ?_
      refine va_get (ci := 9) (v := .int po) (C := RX9) (T := TX9) (N := 24) hx hb hts hin9 hown hK hP 0 rfl rfl 13 (by decide) hfl74 (fun _ h9 => h9) rfl dX9_made_51 ?_
      refine lv_icmp_ge (tgt := 206) hx hb dX9_made_54 (by decide) (fun c_25 => ?_) (fun c_25 => ?_)
      · replace hF := it_p c_25 hF
        exact hk206 a1 a2 a3 mbo msx msy msw mFI mCO mCR mSI mSR mMO mBO _ _ _ hF hP hD hS (lv_sub hl [0, 1, 2, 3] rfl)
      · replace hF := it_n c_25 hF
        refine lv_aload_n hx hb dX9_made_57 rfl (lv_at hl 0 rfl) ?_
        refine va_get (ci := 9) (v := .ref qFI) (C := RX9) (T := TX9) (N := 24) hx hb hts hin9 hown hK hP 0 rfl rfl 6 (by decide) hfl23 (fun _ h9 => h9) rfl dX9_made_58 ?_
        refine lv_iload_n hx hb dX9_made_61 rfl (lv_at hl 2 rfl) ?_
        obtain ⟨hi_26, hF⟩ := gd_in_s hF
        refine va_iald hx hb hK hP 5 0 rfl rfl hi_26 dX9_made_62 ?_
        refine lv_iconst (v := 2) hx hb dX9_made_63 (by decide) ?_
        refine lv_icmp_ne (tgt := 147) hx hb dX9_made_64 (by decide) (fun c_27 => ?_) (fun c_27 => ?_)
        · replace hF := it_n c_27 hF
          exact hJ147 _ ih _ hk206 a1 a2 a3 a4 mbo msx msy msw mFI mCO mCR mSI mSR mMO mBO _ _ _ hF hP hD hS (lv_sub hl [0, 1, 2, 3, 4] rfl)
        · replace hF := it_p c_27 hF
          refine lv_aload_n hx hb dX9_made_67 rfl (lv_at hl 0 rfl) ?_
          refine lv_aload_n hx hb dX9_made_68 rfl (lv_at hl 0 rfl) ?_
          refine va_get (ci := 9) (v := .ref qPX) (C := RX9) (T := TX9) (N := 24) hx hb hts hin9 hown hK hP 0 rfl rfl 14 (by decide) hfl44 (fun _ h9 => h9) rfl dX9_made_69 ?_
          refine lv_iload hx hb dX9_made_72 (lv_at hl 4 rfl) ?_
          obtain ⟨hi_36, hF⟩ := gd_in_s hF
          refine va_iald hx hb hK hP 12 0 rfl rfl hi_36 dX9_made_74 ?_
          refine lv_aload_n hx hb dX9_made_75 rfl (lv_at hl 0 rfl) ?_
          refine va_get (ci := 9) (v := .ref qPX) (C := RX9) (T := TX9) (N := 24) hx hb hts hin9 hown hK hP 0 rfl rfl 14 (by decide) hfl44 (fun _ h9 => h9) rfl dX9_made_76 ?_
          refine lv_iload_n hx hb dX9_made_79 rfl (lv_at hl 3 rfl) ?_
          obtain ⟨hi_37, hF⟩ := gd_in_s hF
          refine va_iald hx hb hK hP 12 0 rfl rfl hi_37 dX9_made_80 ?_
          refine lv_isub hx hb dX9_made_81 ?_
          refine lv_aload_n hx hb dX9_made_82 rfl (lv_at hl 0 rfl) ?_
          refine va_get (ci := 9) (v := .ref qPY) (C := RX9) (T := TX9) (N := 24) hx hb hts hin9 hown hK hP 0 rfl rfl 15 (by decide) hfl47 (fun _ h9 => h9) rfl dX9_made_83 ?_
          refine lv_iload hx hb dX9_made_86 (lv_at hl 4 rfl) ?_
          refine va_iald hx hb hK hP 13 0 rfl rfl hi_36 dX9_made_88 ?_
          refine lv_aload_n hx hb dX9_made_89 rfl (lv_at hl 0 rfl) ?_
          refine va_get (ci := 9) (v := .ref qPY) (C := RX9) (T := TX9) (N := 24) hx hb hts hin9 hown hK hP 0 rfl rfl 15 (by decide) hfl47 (fun _ h9 => h9) rfl dX9_made_90 ?_
          refine lv_iload_n hx hb dX9_made_93 rfl (lv_at hl 3 rfl) ?_
          refine va_iald hx hb hK hP 13 0 rfl rfl hi_37 dX9_made_94 ?_
          refine lv_isub hx hb dX9_made_95 ?_
          refine lv_aload_n hx hb dX9_made_96 rfl (lv_at hl 0 rfl) ?_
          refine va_get (ci := 9) (v := .ref qPZ) (C := RX9) (T := TX9) (N := 24) hx hb hts hin9 hown hK hP 0 rfl rfl 16 (by decide) hfl50 (fun _ h9 => h9) rfl dX9_made_97 ?_
          refine lv_iload hx hb dX9_made_100 (lv_at hl 4 rfl) ?_
          refine va_iald hx hb hK hP 14 0 rfl rfl hi_36 dX9_made_102 ?_
          refine lv_aload_n hx hb dX9_made_103 rfl (lv_at hl 0 rfl) ?_
          refine va_get (ci := 9) (v := .ref qPZ) (C := RX9) (T := TX9) (N := 24) hx hb hts hin9 hown hK hP 0 rfl rfl 16 (by decide) hfl50 (fun _ h9 => h9) rfl dX9_made_104 ?_
          refine lv_iload_n hx hb dX9_made_107 rfl (lv_at hl 3 rfl) ?_
          refine va_iald hx hb hK hP 14 0 rfl rfl hi_37 dX9_made_108 ?_
          refine lv_isub hx hb dX9_made_109 ?_
          refine lv_aload_n hx hb dX9_made_110 rfl (lv_at hl 0 rfl) ?_
          refine va_get (ci := 9) (v := .ref qBO) (C := RX9) (T := TX9) (N := 24) hx hb hts hin9 hown hK hP 0 rfl rfl 12 (by decide) hfl41 (fun _ h9 => h9) rfl dX9_made_111 ?_
          refine lv_iconst (v := 4) hx hb dX9_made_114 (by decide) ?_
          refine lv_iload_n hx hb dX9_made_115 rfl (lv_at hl 2 rfl) ?_
          refine lv_imul hx hb dX9_made_116 ?_
          obtain ⟨hi_38, hF⟩ := gd_in_s hF
          refine va_iald hx hb hK hP 11 0 rfl rfl hi_38 dX9_made_117 ?_
          refine lv_aload_n hx hb dX9_made_118 rfl (lv_at hl 0 rfl) ?_
          refine va_get (ci := 9) (v := .ref qBO) (C := RX9) (T := TX9) (N := 24) hx hb hts hin9 hown hK hP 0 rfl rfl 12 (by decide) hfl41 (fun _ h9 => h9) rfl dX9_made_119 ?_
          refine lv_iconst (v := 4) hx hb dX9_made_122 (by decide) ?_
          refine lv_iload_n hx hb dX9_made_123 rfl (lv_at hl 2 rfl) ?_
          refine lv_imul hx hb dX9_made_124 ?_
          refine lv_iconst (v := 1) hx hb dX9_made_125 (by decide) ?_
          refine lv_iadd hx hb dX9_made_126 ?_
          obtain ⟨hi_39, hF⟩ := gd_in_s hF
          refine va_iald hx hb hK hP 11 0 rfl rfl hi_39 dX9_made_127 ?_
          refine lv_aload_n hx hb dX9_made_128 rfl (lv_at hl 0 rfl) ?_
          refine va_get (ci := 9) (v := .ref qBO) (C := RX9) (T := TX9) (N := 24) hx hb hts hin9 hown hK hP 0 rfl rfl 12 (by decide) hfl41 (fun _ h9 => h9) rfl dX9_made_129 ?_
          refine lv_iconst (v := 4) hx hb dX9_made_132 (by decide) ?_
          refine lv_iload_n hx hb dX9_made_133 rfl (lv_at hl 2 rfl) ?_
          refine lv_imul hx hb dX9_made_134 ?_
          refine lv_iconst (v := 2) hx hb dX9_made_135 (by decide) ?_
          refine lv_iadd hx hb dX9_made_136 ?_
          obtain ⟨hi_40, hF⟩ := gd_in_s hF
          refine va_iald hx hb hK hP 11 0 rfl rfl hi_40 dX9_made_137 ?_
          obtain ⟨v_41, hv_41, hF⟩ := bd_s hF
          refine rw_ve (wf := (fun (u : Int32 × Int32 × Int32) => (wMod G h0 qDR qLA qLE qCE qFI qCO qCR qSI qSR qMO qBO qPX qPY qPZ qSX dr mbo po u.1 u.2.1 u.2.2 tx ty tz DR LA LE CE mFI mCO mCR mSI mSR mMO mBO PX PY PZ SX))) (wr := []) (va_runV (As := [.int ((PX a4.toNatClampNeg) - (PX a3.toNatClampNeg)), .int ((PY a4.toNatClampNeg) - (PY a3.toNatClampNeg)), .int ((PZ a4.toNatClampNeg) - (PZ a3.toNatClampNeg)), .int (mBO (4 * a2).toNatClampNeg), .int (mBO ((4 * a2) + 1).toNatClampNeg), .int (mBO ((4 * a2) + 2).toNatClampNeg)]) (rest := []) ⟨hx, hb, hml, hown, hts⟩ (kX9_square l G h0 qDR qLA qLE qCE qFI qCO qCR qSI qSR qMO qBO qPX qPY qPZ qSX H.size dr mbo po msx msy msw tx ty tz DR LA LE CE mFI mCO mCR mSI mSR mMO mBO PX PY PZ SX ((PX a4.toNatClampNeg) - (PX a3.toNatClampNeg)) ((PY a4.toNatClampNeg) - (PY a3.toNatClampNeg)) ((PZ a4.toNatClampNeg) - (PZ a3.toNatClampNeg)) (mBO (4 * a2).toNatClampNeg) (mBO ((4 * a2) + 1).toNatClampNeg) (mBO ((4 * a2) + 2).toNatClampNeg) v_41 hv_41) (cwV 6 hts gX9_made_X9_square rfl rfl rfl (by decide +kernel) ⟨Nat.le_of_ble_eq_true rfl, Nat.le_of_ble_eq_true rfl⟩) (pvW (q0 := 0) 9 hK (hP.sub (ws' := (wMod G h0 qDR qLA qLE qCE qFI qCO qCR qSI qSR qMO qBO qPX qPY qPZ qSX dr mbo po msx msy msw tx ty tz DR LA LE CE mFI mCO mCR mSI mSR mMO mBO PX PY PZ SX)) [0, 1, 2, 3, 4, 5, 6, 7, 8, 9, 10, 11, 12, 13, 14, 15] rfl) (hD.sub (ws' := (wMod G h0 qDR qLA qLE qCE qFI qCO qCR qSI qSR qMO qBO qPX qPY qPZ qSX dr mbo po msx msy msw tx ty tz DR LA LE CE mFI mCO mCR mSI mSR mMO mBO PX PY PZ SX)) [0, 1, 2, 3, 4, 5, 6, 7, 8, 9, 10, 11, 12, 13, 14, 15] (by decide) rfl) rfl rfl) rfl rfl hl.1 rfl (lv_room (Nat.le_of_ble_eq_true rfl)) dX9_made_138 ⟨Nat.le_of_ble_eq_true rfl, Nat.le_of_ble_eq_true rfl⟩) hP hD hS hA [0, 1, 2, 3, 4, 5, 6, 7, 8, 9, 10, 11, 12, 13, 14, 15] [] rfl rfl (by decide) (by decide) (fun H locs  hP hD hS => ?_)
          have hP : va_P (gD G) vwCl (wMod G h0 qDR qLA qLE qCE qFI qCO qCR qSI qSR qMO qBO qPX qPY qPZ qSX dr mbo po v_41.1 v_41.2.1 v_41.2.2 tx ty tz DR LA LE CE mFI mCO mCR mSI mSR mMO mBO PX PY PZ SX) H := hP.sub [0, 1, 2, 3, 4, 5, 6, 7, 8, 9, 10, 11, 12, 13, 14, 15] rfl
          have hD : va_D A (wMod G h0 qDR qLA qLE qCE qFI qCO qCR qSI qSR qMO qBO qPX qPY qPZ qSX dr mbo po v_41.1 v_41.2.1 v_41.2.2 tx ty tz DR LA LE CE mFI mCO mCR mSI mSR mMO mBO PX PY PZ SX) := hD.sub [0, 1, 2, 3, 4, 5, 6, 7, 8, 9, 10, 11, 12, 13, 14, 15] (by decide) rfl
          refine lv_aload_n hx hb dX9_made_141 rfl (lv_at hl 0 rfl) ?_
          refine lv_iload_n hx hb dX9_made_142 rfl (lv_at hl 2 rfl) ?_
          refine lv_iload_n hx hb dX9_made_143 rfl (lv_at hl 3 rfl) ?_
          obtain ⟨v_42, hv_42, hF⟩ := bd_s hF
          refine rw_ve (wf := (fun (u : Int32 × Int32 × Int32 × (Nat → Int32) × (Nat → Int32)) => (wMod G h0 qDR qLA qLE qCE qFI qCO qCR qSI qSR qMO qBO qPX qPY qPZ qSX dr mbo po u.1 u.2.1 u.2.2.1 tx ty tz DR LA LE CE mFI mCO mCR u.2.2.2.1 u.2.2.2.2 mMO mBO PX PY PZ SX))) (wr := []) (va_runV (As := [.int a2, .int a3]) (rest := []) ⟨hx, hb, hml, hown, hts⟩ (kX9_bothSides l G h0 qDR qLA qLE qCE qFI qCO qCR qSI qSR qMO qBO qPX qPY qPZ qSX H.size dr mbo po v_41.1 v_41.2.1 v_41.2.2 tx ty tz DR LA LE CE mFI mCO mCR mSI mSR mMO mBO PX PY PZ SX a2 a3 v_42 hv_42) (cwV 2 hts gX9_made_X9_bothSides rfl rfl rfl (by decide +kernel) ⟨Nat.le_of_ble_eq_true rfl, Nat.le_of_ble_eq_true rfl⟩) (pvW (q0 := 0) 9 hK (hP.sub (ws' := (wMod G h0 qDR qLA qLE qCE qFI qCO qCR qSI qSR qMO qBO qPX qPY qPZ qSX dr mbo po v_41.1 v_41.2.1 v_41.2.2 tx ty tz DR LA LE CE mFI mCO mCR mSI mSR mMO mBO PX PY PZ SX)) [0, 1, 2, 3, 4, 5, 6, 7, 8, 9, 10, 11, 12, 13, 14, 15] rfl) (hD.sub (ws' := (wMod G h0 qDR qLA qLE qCE qFI qCO qCR qSI qSR qMO qBO qPX qPY qPZ qSX dr mbo po v_41.1 v_41.2.1 v_41.2.2 tx ty tz DR LA LE CE mFI mCO mCR mSI mSR mMO mBO PX PY PZ SX)) [0, 1, 2, 3, 4, 5, 6, 7, 8, 9, 10, 11, 12, 13, 14, 15] (by decide) rfl) rfl rfl) rfl rfl hl.1 rfl (lv_room (Nat.le_of_ble_eq_true rfl)) dX9_made_144 ⟨Nat.le_of_ble_eq_true rfl, Nat.le_of_ble_eq_true rfl⟩) hP hD hS hA [0, 1, 2, 3, 4, 5, 6, 7, 8, 9, 10, 11, 12, 13, 14, 15] [] rfl rfl (by decide) (by decide) (fun H locs  hP hD hS => ?_)
          have hP : va_P (gD G) vwCl (wMod G h0 qDR qLA qLE qCE qFI qCO qCR qSI qSR qMO qBO qPX qPY qPZ qSX dr mbo po v_42.1 v_42.2.1 v_42.2.2.1 tx ty tz DR LA LE CE mFI mCO mCR v_42.2.2.2.1 v_42.2.2.2.2 mMO mBO PX PY PZ SX) H := hP.sub [0, 1, 2, 3, 4, 5, 6, 7, 8, 9, 10, 11, 12, 13, 14, 15] rfl
          have hD : va_D A (wMod G h0 qDR qLA qLE qCE qFI qCO qCR qSI qSR qMO qBO qPX qPY qPZ qSX dr mbo po v_42.1 v_42.2.1 v_42.2.2.1 tx ty tz DR LA LE CE mFI mCO mCR v_42.2.2.2.1 v_42.2.2.2.2 mMO mBO PX PY PZ SX) := hD.sub [0, 1, 2, 3, 4, 5, 6, 7, 8, 9, 10, 11, 12, 13, 14, 15] (by decide) rfl
          exact hJ147 _ ih _ hk206 a1 a2 a3 a4 mbo v_42.1 v_42.2.1 v_42.2.2.1 mFI mCO mCR v_42.2.2.2.1 v_42.2.2.2.2 mMO mBO _ _ _ hF hP hD hS (lv_sub hl [0, 1, 2, 3, 4] rfl)
  have hL25 : ∀ (k : Nat), ∀ (a1 : Int32) (a2 : Int32) (a3 : Int32) (mbo : Int32) (msx : Int32) (msy : Int32) (msw : Int32) (mFI : Nat → Int32) (mCO : Nat → Int32) (mCR : Nat → Int32) (mSI : Nat → Int32) (mSR : Nat → Int32) (mMO : Nat → Int32) (mBO : Nat → Int32) (H : Heap) (locs : List Loc) (ls : Array Slot), LX9_made_25 po PX PY PZ k a1 a2 a3 mbo msx msy msw mFI mCO mCR mSI mSR mMO mBO = some res → va_P (gD G) vwCl (wMod G h0 qDR qLA qLE qCE qFI qCO qCR qSI qSR qMO qBO qPX qPY qPZ qSX dr mbo po msx msy msw tx ty tz DR LA LE CE mFI mCO mCR mSI mSR mMO mBO PX PY PZ SX) H → va_D A (wMod G h0 qDR qLA qLE qCE qFI qCO qCR qSI qSR qMO qBO qPX qPY qPZ qSX dr mbo po msx msy msw tx ty tz DR LA LE CE mFI mCO mCR mSI mSR mMO mBO PX PY PZ SX) → va_S A s.heap H locs → lv_has ls 6 [(0, .ref h0), (1, .int a1), (2, .int a2), (3, .int a3)] → W p l e (headSpec wsX9_made rX9_made).room s m ([.ref h0, .int p1] : List Value).toArray below meth c H locs 0 0 (MQ below (va_Qi (fun (r : Int32) (u : Int32 × Int32 × Int32 × Int32 × (Nat → Int32) × (Nat → Int32) × (Nat → Int32) × (Nat → Int32) × (Nat → Int32) × (Nat → Int32) × (Nat → Int32)) => r = res.1 ∧ u = res.2) (fun u t => qW G A (wMod G h0 qDR qLA qLE qCE qFI qCO qCR qSI qSR qMO qBO qPX qPY qPZ qSX dr u.1 po u.2.1 u.2.2.1 u.2.2.2.1 tx ty tz DR LA LE CE u.2.2.2.2.1 u.2.2.2.2.2.1 u.2.2.2.2.2.2.1 u.2.2.2.2.2.2.2.1 u.2.2.2.2.2.2.2.2.1 u.2.2.2.2.2.2.2.2.2.1 u.2.2.2.2.2.2.2.2.2.2 PX PY PZ SX) t) A) ([.ref h0, .int p1] : List Value).toArray s 0 0 A) (F0 m 25 ls []) := by
    intro k
    induction k with
    | zero =>
      intro a1 a2 a3 mbo msx msy msw mFI mCO mCR mSI mSR mMO mBO H locs ls hF hP hD hS hl
      rw [LX9_made_25] at hF
      cases hF
    | succ k ih =>
      intro a1 a2 a3 mbo msx msy msw mFI mCO mCR mSI mSR mMO mBO H locs ls hF hP hD hS hl
      rw [LX9_made_25] at hF
      refine lv_iload_n hx hb dX9_made_25 rfl (lv_at hl 3 rfl) ?_
      refine lv_aload_n hx hb dX9_made_26 rfl (lv_at hl 0 rfl) ?_
      refine va_get (ci := 9) (v := .int po) (C := RX9) (T := TX9) (N := 24) hx hb hts hin9 hown hK hP 0 rfl rfl 13 (by decide) hfl74 (fun _ h9 => h9) rfl dX9_made_27 ?_
      refine lv_icmp_ge (tgt := 212) hx hb dX9_made_30 (by decide) (fun c_3 => ?_) (fun c_3 => ?_)
      · replace hF := it_p c_3 hF
        exact hJ212 a1 a2 mbo msx msy msw mFI mCO mCR mSI mSR mMO mBO _ _ _ hF hP hD hS (lv_sub hl [0, 1, 2] rfl)
      · replace hF := it_n c_3 hF
        refine lv_aload_n hx hb dX9_made_33 rfl (lv_at hl 0 rfl) ?_
        refine va_get (ci := 9) (v := .ref qFI) (C := RX9) (T := TX9) (N := 24) hx hb hts hin9 hown hK hP 0 rfl rfl 6 (by decide) hfl23 (fun _ h9 => h9) rfl dX9_made_34 ?_
        refine lv_iload_n hx hb dX9_made_37 rfl (lv_at hl 2 rfl) ?_
        obtain ⟨hi_23, hF⟩ := gd_in_s hF
        refine va_iald hx hb hK hP 5 0 rfl rfl hi_23 dX9_made_38 ?_
        refine lv_iconst (v := 1) hx hb dX9_made_39 (by decide) ?_
        refine lv_icmp_le (tgt := 212) hx hb dX9_made_40 (by decide) (fun c_24 => ?_) (fun c_24 => ?_)
        · replace hF := it_p c_24 hF
          exact hJ212 a1 a2 mbo msx msy msw mFI mCO mCR mSI mSR mMO mBO _ _ _ hF hP hD hS (lv_sub hl [0, 1, 2] rfl)
        · replace hF := it_n c_24 hF
          refine lv_iload_n hx hb dX9_made_43 rfl (lv_at hl 3 rfl) ?_
          refine lv_iconst (v := 1) hx hb dX9_made_44 (by decide) ?_
          refine lv_iadd hx hb dX9_made_45 ?_
          refine lv_istore (lv' := [(4, .int (a3 + 1)), (0, .ref h0), (1, .int a1), (2, .int a2), (3, .int a3)]) hx hb dX9_made_46 hl (by decide) rfl (fun ls hl => ?_)
          refine hL48 _ ?_ FU a1 a2 a3 (a3 + 1) mbo msx msy msw mFI mCO mCR mSI mSR mMO mBO _ _ _ hF hP hD hS (lv_sub hl [1, 2, 3, 4, 0] rfl)
          · intro a1 a2 a3 mbo msx msy msw mFI mCO mCR mSI mSR mMO mBO H locs ls hF hP hD hS hl
            refine lv_iinc (v := a3 + 1) (lv' := [(3, .int (a3 + 1)), (0, .ref h0), (1, .int a1), (2, .int a2)]) hx hb dX9_made_206 hl (k := 3) rfl rfl (by decide) rfl (fun ls hl => ?_)
            refine lv_goto (tgt := 25) hx hb dX9_made_209 (by decide) ?_
            exact ih a1 a2 (a3 + 1) mbo msx msy msw mFI mCO mCR mSI mSR mMO mBO _ _ _ hF hP hD hS (lv_sub hl [1, 2, 3, 0] rfl)
  unfold fX9_made at hF
  refine lv_aload_n hx hb dX9_made_0 rfl (lv_at hl 0 rfl) ?_
  refine va_get (ci := 9) (v := .int bo) (C := RX9) (T := TX9) (N := 24) hx hb hts hin9 hown hK hP 0 rfl rfl 5 (by decide) hfl124 (fun _ h9 => h9) rfl dX9_made_1 ?_
  refine lv_istore_n (lv' := [(2, .int bo), (0, .ref h0), (1, .int p1)]) hx hb dX9_made_4 rfl hl (by decide) rfl (fun ls hl => ?_)
  refine lv_aload_n hx hb dX9_made_5 rfl (lv_at hl 1 rfl) ?_
  refine va_get (ci := 9) (v := .ref qFI) (C := RX9) (T := TX9) (N := 24) hx hb hts hin9 hown hK hP 0 rfl rfl 6 (by decide) hfl23 (fun _ h9 => h9) rfl dX9_made_6 ?_
  refine lv_iload_n hx hb dX9_made_9 rfl (lv_at hl 0 rfl) ?_
  refine lv_aload_n hx hb dX9_made_10 rfl (lv_at hl 1 rfl) ?_
  refine lv_iload_n hx hb dX9_made_11 rfl (lv_at hl 0 rfl) ?_
  obtain ⟨v_1, hv_1, hF⟩ := bd_s hF
  refine rw_ie (wf := (fun (u : Int32 × Int32 × Int32 × (Nat → Int32)) => (wMod G h0 qDR qLA qLE qCE qFI qCO qCR qSI qSR qMO qBO qPX qPY qPZ qSX dr bo po u.1 u.2.1 u.2.2.1 tx ty tz DR LA LE CE FI CO CR SI SR MO u.2.2.2 PX PY PZ SX))) (wr := []) (va_runV (As := [.int bo]) (rest := [.int bo, .ref qFI]) ⟨hx, hb, hml, hown, hts⟩ (kX9_filled l G h0 qDR qLA qLE qCE qFI qCO qCR qSI qSR qMO qBO qPX qPY qPZ qSX s.heap.size dr bo po sx sy sw tx ty tz DR LA LE CE FI CO CR SI SR MO BO PX PY PZ SX bo v_1 hv_1) (cwV 1 hts gX9_made_X9_filled rfl rfl rfl (by decide +kernel) ⟨Nat.le_of_ble_eq_true rfl, Nat.le_of_ble_eq_true rfl⟩) (pvW (q0 := 0) 9 hK (hP.sub (ws' := (wMod G h0 qDR qLA qLE qCE qFI qCO qCR qSI qSR qMO qBO qPX qPY qPZ qSX dr bo po sx sy sw tx ty tz DR LA LE CE FI CO CR SI SR MO BO PX PY PZ SX)) [0, 1, 2, 3, 4, 5, 6, 7, 8, 9, 10, 11, 12, 13, 14, 15] rfl) (hD.sub (ws' := (wMod G h0 qDR qLA qLE qCE qFI qCO qCR qSI qSR qMO qBO qPX qPY qPZ qSX dr bo po sx sy sw tx ty tz DR LA LE CE FI CO CR SI SR MO BO PX PY PZ SX)) [0, 1, 2, 3, 4, 5, 6, 7, 8, 9, 10, 11, 12, 13, 14, 15] (by decide) rfl) rfl rfl) rfl rfl hl.1 rfl (lv_room (Nat.le_of_ble_eq_true rfl)) dX9_made_12 ⟨Nat.le_of_ble_eq_true rfl, Nat.le_of_ble_eq_true rfl⟩) hP hD hS hA [0, 1, 2, 3, 4, 5, 6, 7, 8, 9, 10, 11, 12, 13, 14, 15] [] rfl rfl (by decide) (by decide) (fun H locs  hP hD hS => ?_)
  have hP : va_P (gD G) vwCl (wMod G h0 qDR qLA qLE qCE qFI qCO qCR qSI qSR qMO qBO qPX qPY qPZ qSX dr bo po v_1.2.1 v_1.2.2.1 v_1.2.2.2.1 tx ty tz DR LA LE CE FI CO CR SI SR MO v_1.2.2.2.2 PX PY PZ SX) H := hP.sub [0, 1, 2, 3, 4, 5, 6, 7, 8, 9, 10, 11, 12, 13, 14, 15] rfl
  have hD : va_D A (wMod G h0 qDR qLA qLE qCE qFI qCO qCR qSI qSR qMO qBO qPX qPY qPZ qSX dr bo po v_1.2.1 v_1.2.2.1 v_1.2.2.2.1 tx ty tz DR LA LE CE FI CO CR SI SR MO v_1.2.2.2.2 PX PY PZ SX) := hD.sub [0, 1, 2, 3, 4, 5, 6, 7, 8, 9, 10, 11, 12, 13, 14, 15] (by decide) rfl
  obtain ⟨hi_2, hF⟩ := gd_in_s hF
  refine va_iast hx hb hK hP hD hS 5 0 rfl rfl hi_2 dX9_made_15 (fun H locs hP hD hS => ?_)
  have hP : va_P (gD G) vwCl (wMod G h0 qDR qLA qLE qCE qFI qCO qCR qSI qSR qMO qBO qPX qPY qPZ qSX dr bo po v_1.2.1 v_1.2.2.1 v_1.2.2.2.1 tx ty tz DR LA LE CE (upd FI bo.toNatClampNeg v_1.1) CO CR SI SR MO v_1.2.2.2.2 PX PY PZ SX) H := hP
  have hD : va_D A (wMod G h0 qDR qLA qLE qCE qFI qCO qCR qSI qSR qMO qBO qPX qPY qPZ qSX dr bo po v_1.2.1 v_1.2.2.1 v_1.2.2.2.1 tx ty tz DR LA LE CE (upd FI bo.toNatClampNeg v_1.1) CO CR SI SR MO v_1.2.2.2.2 PX PY PZ SX) := hD
  refine lv_aload_n hx hb dX9_made_16 rfl (lv_at hl 1 rfl) ?_
  refine va_get (ci := 9) (v := .ref qSI) (C := RX9) (T := TX9) (N := 24) hx hb hts hin9 hown hK hP 0 rfl rfl 9 (by decide) hfl32 (fun _ h9 => h9) rfl dX9_made_17 ?_
  refine lv_iload_n hx hb dX9_made_20 rfl (lv_at hl 0 rfl) ?_
  refine lv_iconst (v := 0) hx hb dX9_made_21 (by decide) ?_
  refine va_iast hx hb hK hP hD hS 8 0 rfl rfl hi_2 dX9_made_22 (fun H locs hP hD hS => ?_)
  have hP : va_P (gD G) vwCl (wMod G h0 qDR qLA qLE qCE qFI qCO qCR qSI qSR qMO qBO qPX qPY qPZ qSX dr bo po v_1.2.1 v_1.2.2.1 v_1.2.2.2.1 tx ty tz DR LA LE CE (upd FI bo.toNatClampNeg v_1.1) CO CR (upd SI bo.toNatClampNeg 0) SR MO v_1.2.2.2.2 PX PY PZ SX) H := hP
  have hD : va_D A (wMod G h0 qDR qLA qLE qCE qFI qCO qCR qSI qSR qMO qBO qPX qPY qPZ qSX dr bo po v_1.2.1 v_1.2.2.1 v_1.2.2.2.1 tx ty tz DR LA LE CE (upd FI bo.toNatClampNeg v_1.1) CO CR (upd SI bo.toNatClampNeg 0) SR MO v_1.2.2.2.2 PX PY PZ SX) := hD
  refine lv_iconst (v := 0) hx hb dX9_made_23 (by decide) ?_
  refine lv_istore_n (lv' := [(3, .int 0), (2, .int bo), (0, .ref h0), (1, .int p1)]) hx hb dX9_made_24 rfl hl (by decide) rfl (fun ls hl => ?_)
  exact hL25 FU p1 bo 0 bo v_1.2.1 v_1.2.2.1 v_1.2.2.2.1 (upd FI bo.toNatClampNeg v_1.1) CO CR (upd SI bo.toNatClampNeg 0) SR MO v_1.2.2.2.2 _ _ _ hF hP hD hS (lv_sub hl [2, 3, 1, 0] rfl)
