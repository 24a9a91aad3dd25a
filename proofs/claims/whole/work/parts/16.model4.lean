theorem pr_e {α β : Type} {a : α} {u : β} {res : α × β} (h : some (a, u) = some res) : a = res.1 ∧ u = res.2 := by cases h; exact ⟨rfl, rfl⟩
def JX9_layRule_164 (FI : Nat → Int32) (CO : Nat → Int32) (CR : Nat → Int32) (SI : Nat → Int32) (SR : Nat → Int32) (BO : Nat → Int32)  (t0 : Int32) (t1 : Int32) (mSX : Nat → Int32) : Option ((Nat → Int32)) :=
  (gd_in t1 4 (some (upd mSX t1.toNatClampNeg t0)))
def JX9_layRule_125 (FI : Nat → Int32) (CO : Nat → Int32) (CR : Nat → Int32) (SI : Nat → Int32) (SR : Nat → Int32) (BO : Nat → Int32)  (a1 : Int32) (a2 : Int32) (t0 : Int32) (t1 : Int32) (mSX : Nat → Int32) : Option ((Nat → Int32)) :=
  (gd_in t1 4 (gd_in a1 8 (if FI a1.toNatClampNeg ≤ 0 then (JX9_layRule_164 FI CO CR SI SR BO 0 1 (upd mSX t1.toNatClampNeg t0)) else (gd_in 2 4 (gd_in 3 4 (JX9_layRule_164 FI CO CR SI SR BO (((6 * (a2 - 1)) - ((upd mSX t1.toNatClampNeg t0) (2 : Int32).toNatClampNeg)) - ((upd mSX t1.toNatClampNeg t0) (3 : Int32).toNatClampNeg)) 1 (upd mSX t1.toNatClampNeg t0)))))))
def JX9_layRule_89 (FI : Nat → Int32) (CO : Nat → Int32) (CR : Nat → Int32) (SI : Nat → Int32) (SR : Nat → Int32) (BO : Nat → Int32)  (a1 : Int32) (a2 : Int32) (a3 : Int32) (t0 : Int32) (t1 : Int32) (mSX : Nat → Int32) : Option ((Nat → Int32)) :=
  (gd_in t1 4 (gd_in a1 8 (if FI a1.toNatClampNeg ≤ 1 then (JX9_layRule_125 FI CO CR SI SR BO a1 a2 0 2 (upd mSX t1.toNatClampNeg t0)) else (gd_in 3 4 (JX9_layRule_125 FI CO CR SI SR BO a1 a2 (3 * (((a3 - (2 * a2)) + 1) - ((upd mSX t1.toNatClampNeg t0) (3 : Int32).toNatClampNeg))) 2 (upd mSX t1.toNatClampNeg t0))))))
def JX9_layRule_48 (FI : Nat → Int32) (CO : Nat → Int32) (CR : Nat → Int32) (SI : Nat → Int32) (SR : Nat → Int32) (BO : Nat → Int32)  (a1 : Int32) (a2 : Int32) (a3 : Int32) (t0 : Int32) (mSX : Nat → Int32) : Option ((Nat → Int32)) :=
  (gd_in 0 4 (gd_in a1 8 (if FI a1.toNatClampNeg ≤ 2 then (JX9_layRule_89 FI CO CR SI SR BO a1 a2 a3 0 3 (upd mSX (0 : Int32).toNatClampNeg 6)) else (JX9_layRule_89 FI CO CR SI SR BO a1 a2 a3 (((t0 - (3 * a3)) + (3 * a2)) - 1) 3 (upd mSX (0 : Int32).toNatClampNeg 6)))))
def JX9_layRule_27 (FI : Nat → Int32) (CO : Nat → Int32) (CR : Nat → Int32) (SI : Nat → Int32) (SR : Nat → Int32) (BO : Nat → Int32)  (a1 : Int32) (a2 : Int32) (t0 : Int32) (mSX : Nat → Int32) : Option ((Nat → Int32)) :=
  (gd_in a1 8 (if FI a1.toNatClampNeg ≤ 2 then (JX9_layRule_48 FI CO CR SI SR BO a1 a2 t0 0 mSX) else (bd (fX9_countOf FI CO CR SI SR BO a1 3) (fun v_19 => (JX9_layRule_48 FI CO CR SI SR BO a1 a2 t0 v_19 mSX)))))
def fX9_layRule (FI : Nat → Int32) (CO : Nat → Int32) (CR : Nat → Int32) (SI : Nat → Int32) (SR : Nat → Int32) (BO : Nat → Int32) (SX : Nat → Int32) (p1 : Int32) : Option ((Nat → Int32)) :=
  (bd (fX9_countOf FI CO CR SI SR BO p1 1) (fun v_1 => (gd_in p1 8 (if FI p1.toNatClampNeg ≤ 1 then (JX9_layRule_27 FI CO CR SI SR BO p1 v_1 0 SX) else (bd (fX9_countOf FI CO CR SI SR BO p1 2) (fun v_20 => (JX9_layRule_27 FI CO CR SI SR BO p1 v_1 v_20 SX)))))))
abbrev rX9_layRule : Room := { frames := 3, cells := 0, slots := 0, locals := 101 }
set_option maxHeartbeats 40000000 in
set_option maxRecDepth 100000 in
theorem kX9_layRule (l : Launch) (G : GT) (h0 qDR qLA qLE qCE qFI qCO qCR qSI qSR qMO qBO qPX qPY qPZ qSX : Nat) (sz : Nat) (dr : Int32) (bo : Int32) (po : Int32) (sx : Int32) (sy : Int32) (sw : Int32) (tx : Int32) (ty : Int32) (tz : Int32) (DR : Nat → Int32) (LA : Nat → Int32) (LE : Nat → Int32) (CE : Nat → Int64) (FI : Nat → Int32) (CO : Nat → Int32) (CR : Nat → Int32) (SI : Nat → Int32) (SR : Nat → Int32) (MO : Nat → Int32) (BO : Nat → Int32) (PX : Nat → Int32) (PY : Nat → Int32) (PZ : Nat → Int32) (SX : Nat → Int32) (p1 : Int32) (res : (Nat → Int32)) (hF : fX9_layRule FI CO CR SI SR BO SX p1 = some res) : Met l yX9_layRule wsX9_layRule rX9_layRule (va_Pc [.ref h0, .int p1] (pW G sz (wMod G h0 qDR qLA qLE qCE qFI qCO qCR qSI qSR qMO qBO qPX qPY qPZ qSX dr bo po sx sy sw tx ty tz DR LA LE CE FI CO CR SI SR MO BO PX PY PZ SX))) (va_Qv (fun (u : (Nat → Int32)) => u = res) (fun u t => qW G (va_A (wMod G h0 qDR qLA qLE qCE qFI qCO qCR qSI qSR qMO qBO qPX qPY qPZ qSX dr bo po sx sy sw tx ty tz DR LA LE CE FI CO CR SI SR MO BO PX PY PZ SX) sz) (wMod G h0 qDR qLA qLE qCE qFI qCO qCR qSI qSR qMO qBO qPX qPY qPZ qSX dr bo po sx sy sw tx ty tz DR LA LE CE FI CO CR SI SR MO BO PX PY PZ u) t) (va_A (wMod G h0 qDR qLA qLE qCE qFI qCO qCR qSI qSR qMO qBO qPX qPY qPZ qSX dr bo po sx sy sw tx ty tz DR LA LE CE FI CO CR SI SR MO BO PX PY PZ SX) sz)) 0 0 (va_A (wMod G h0 qDR qLA qLE qCE qFI qCO qCR qSI qSR qMO qBO qPX qPY qPZ qSX dr bo po sx sy sw tx ty tz DR LA LE CE FI CO CR SI SR MO BO PX PY PZ SX) sz) := by
  refine Met.ofW (cc := cX9_layRule) (maxL := 5) (ret := none) (by decide) rfl ?_
  intro p e s m args below meth c s₁ B hml hv
  obtain ⟨rfl, hsz, hP, hK, hD0⟩ := hv
  have hx := B.exec
  have hb := B.bytes
  have hr := B.returns
  have hts := atoms_spec (ws := wsX9_layRule) B.pre
  have hown : s.vm.findClass RX9 = some m.cls := findClass_of_methodNamed B.named
  have hlocks := B.notSynchronized
  subst hsz
  have hD := hD0.self (sz := s.heap.size)
  generalize hAe : va_A (wMod G h0 qDR qLA qLE qCE qFI qCO qCR qSI qSR qMO qBO qPX qPY qPZ qSX dr bo po sx sy sw tx ty tz DR LA LE CE FI CO CR SI SR MO BO PX PY PZ SX) s.heap.size = A at hD ⊢
  have hA : ∀ q : Nat, s.heap.size ≤ q → A q := fun q h => by rw [← hAe]; exact Or.inr h
  have hS : va_S A s.heap s.heap [] := va_S.rf
  have hin9 : ∀ w ∈ u_ws RX9 TX9 24, w ∈ wsX9_layRule := by decide +kernel
  have hfl23 := hts (.fieldLink RX9 23 "SwellBodiesModel" "fills" "[I") (by decide +kernel)
  have hfl53 := hts (.fieldLink RX9 53 "SwellBodiesModel" "six" "[I") (by decide +kernel)
  have hl := lv_entry ([.ref h0, .int p1]) (n := 5) (Nat.le_of_ble_eq_true rfl)
  rw [lg_entry_eq]
  generalize (lg_sl ([.ref h0, .int p1]) ++ List.replicate (5 - (lg_sl ([.ref h0, .int p1])).length) Slot.unset).toArray = ls at hl ⊢
  have hl : lv_has ls 5 [(0, .ref h0), (1, .int p1)] := hl
  have hJ164 : ∀ (t0 : Int32) (t1 : Int32) (mSX : Nat → Int32) (H : Heap) (locs : List Loc) (ls : Array Slot), JX9_layRule_164 FI CO CR SI SR BO t0 t1 mSX = some res → va_P (gD G) vwCl (wMod G h0 qDR qLA qLE qCE qFI qCO qCR qSI qSR qMO qBO qPX qPY qPZ qSX dr bo po sx sy sw tx ty tz DR LA LE CE FI CO CR SI SR MO BO PX PY PZ mSX) H → va_D A (wMod G h0 qDR qLA qLE qCE qFI qCO qCR qSI qSR qMO qBO qPX qPY qPZ qSX dr bo po sx sy sw tx ty tz DR LA LE CE FI CO CR SI SR MO BO PX PY PZ mSX) → va_S A s.heap H locs → lv_has ls 5 [] → W p l e (headSpec wsX9_layRule rX9_layRule).room s m ([.ref h0, .int p1] : List Value).toArray below meth c H locs 0 0 (MQ below (va_Qv (fun (u : (Nat → Int32)) => u = res) (fun u t => qW G A (wMod G h0 qDR qLA qLE qCE qFI qCO qCR qSI qSR qMO qBO qPX qPY qPZ qSX dr bo po sx sy sw tx ty tz DR LA LE CE FI CO CR SI SR MO BO PX PY PZ u) t) A) ([.ref h0, .int p1] : List Value).toArray s 0 0 A) (F0 m 164 ls [.int t0, .int t1, .ref qSX]) := by
    intro t0 t1 mSX H locs ls hF hP hD hS hl
    unfold JX9_layRule_164 at hF
    obtain ⟨hi_15, hF⟩ := gd_in_s hF
    refine va_iast hx hb hK hP hD hS 15 0 rfl rfl hi_15 dX9_layRule_164 (fun H locs hP hD hS => ?_)
    have hP : va_P (gD G) vwCl (wMod G h0 qDR qLA qLE qCE qFI qCO qCR qSI qSR qMO qBO qPX qPY qPZ qSX dr bo po sx sy sw tx ty tz DR LA LE CE FI CO CR SI SR MO BO PX PY PZ (upd mSX t1.toNatClampNeg t0)) H := hP
    have hD : va_D A (wMod G h0 qDR qLA qLE qCE qFI qCO qCR qSI qSR qMO qBO qPX qPY qPZ qSX dr bo po sx sy sw tx ty tz DR LA LE CE FI CO CR SI SR MO BO PX PY PZ (upd mSX t1.toNatClampNeg t0)) := hD
    exact W.vret hx hb hr (fun t ht hW => ⟨⟨upd mSX t1.toNatClampNeg t0, rfl, so_e hF, qW_mk ht hP hK hW hD⟩, hS.F ht⟩) hS.2.2 dX9_layRule_165
  have hJ125 : ∀ (a1 : Int32) (a2 : Int32) (t0 : Int32) (t1 : Int32) (mSX : Nat → Int32) (H : Heap) (locs : List Loc) (ls : Array Slot), JX9_layRule_125 FI CO CR SI SR BO a1 a2 t0 t1 mSX = some res → va_P (gD G) vwCl (wMod G h0 qDR qLA qLE qCE qFI qCO qCR qSI qSR qMO qBO qPX qPY qPZ qSX dr bo po sx sy sw tx ty tz DR LA LE CE FI CO CR SI SR MO BO PX PY PZ mSX) H → va_D A (wMod G h0 qDR qLA qLE qCE qFI qCO qCR qSI qSR qMO qBO qPX qPY qPZ qSX dr bo po sx sy sw tx ty tz DR LA LE CE FI CO CR SI SR MO BO PX PY PZ mSX) → va_S A s.heap H locs → lv_has ls 5 [(0, .ref h0), (1, .int a1), (2, .int a2)] → W p l e (headSpec wsX9_layRule rX9_layRule).room s m ([.ref h0, .int p1] : List Value).toArray below meth c H locs 0 0 (MQ below (va_Qv (fun (u : (Nat → Int32)) => u = res) (fun u t => qW G A (wMod G h0 qDR qLA qLE qCE qFI qCO qCR qSI qSR qMO qBO qPX qPY qPZ qSX dr bo po sx sy sw tx ty tz DR LA LE CE FI CO CR SI SR MO BO PX PY PZ u) t) A) ([.ref h0, .int p1] : List Value).toArray s 0 0 A) (F0 m 125 ls [.int t0, .int t1, .ref qSX]) := by
    intro a1 a2 t0 t1 mSX H locs ls hF hP hD hS hl
    unfold JX9_layRule_125 at hF
    obtain ⟨hi_12, hF⟩ := gd_in_s hF
    refine va_iast hx hb hK hP hD hS 15 0 rfl rfl hi_12 dX9_layRule_125 (fun H locs hP hD hS => ?_)
    have hP : va_P (gD G) vwCl (wMod G h0 qDR qLA qLE qCE qFI qCO qCR qSI qSR qMO qBO qPX qPY qPZ qSX dr bo po sx sy sw tx ty tz DR LA LE CE FI CO CR SI SR MO BO PX PY PZ (upd mSX t1.toNatClampNeg t0)) H := hP
    have hD : va_D A (wMod G h0 qDR qLA qLE qCE qFI qCO qCR qSI qSR qMO qBO qPX qPY qPZ qSX dr bo po sx sy sw tx ty tz DR LA LE CE FI CO CR SI SR MO BO PX PY PZ (upd mSX t1.toNatClampNeg t0)) := hD
    refine lv_aload_n hx hb dX9_layRule_126 rfl (lv_at hl 0 rfl) ?_
    refine va_get (ci := 9) (v := .ref qSX) (C := RX9) (T := TX9) (N := 24) hx hb hts hin9 hown hK hP 0 rfl rfl 20 (by decide) hfl53 (fun _ h9 => h9) rfl dX9_layRule_127 ?_
    refine lv_iconst (v := 1) hx hb dX9_layRule_130 (by decide) ?_
    refine lv_aload_n hx hb dX9_layRule_131 rfl (lv_at hl 0 rfl) ?_
    refine va_get (ci := 9) (v := .ref qFI) (C := RX9) (T := TX9) (N := 24) hx hb hts hin9 hown hK hP 0 rfl rfl 6 (by decide) hfl23 (fun _ h9 => h9) rfl dX9_layRule_132 ?_
    refine lv_iload_n hx hb dX9_layRule_135 rfl (lv_at hl 1 rfl) ?_
    obtain ⟨hi_13, hF⟩ := gd_in_s hF
    refine va_iald hx hb hK hP 5 0 rfl rfl hi_13 dX9_layRule_136 ?_
    refine lv_if_le (tgt := 163) hx hb dX9_layRule_137 (by decide) (fun c_14 => ?_) (fun c_14 => ?_)
    · replace hF := it_p c_14 hF
      refine lv_iconst (v := 0) hx hb dX9_layRule_163 (by decide) ?_
      exact hJ164 0 1 (upd mSX t1.toNatClampNeg t0) _ _ _ hF hP hD hS (lv_sub hl [] rfl)
    · replace hF := it_n c_14 hF
      refine lv_bipush (v := 6) hx hb dX9_layRule_140 (by decide) ?_
      refine lv_iload_n hx hb dX9_layRule_142 rfl (lv_at hl 2 rfl) ?_
      refine lv_iconst (v := 1) hx hb dX9_layRule_143 (by decide) ?_
      refine lv_isub hx hb dX9_layRule_144 ?_
      refine lv_imul hx hb dX9_layRule_145 ?_
      refine lv_aload_n hx hb dX9_layRule_146 rfl (lv_at hl 0 rfl) ?_
      refine va_get (ci := 9) (v := .ref qSX) (C := RX9) (T := TX9) (N := 24) hx hb hts hin9 hown hK hP 0 rfl rfl 20 (by decide) hfl53 (fun _ h9 => h9) rfl dX9_layRule_147 ?_
      refine lv_iconst (v := 2) hx hb dX9_layRule_150 (by decide) ?_
      obtain ⟨hi_16, hF⟩ := gd_in_s hF
      refine va_iald hx hb hK hP 15 0 rfl rfl hi_16 dX9_layRule_151 ?_
      refine lv_isub hx hb dX9_layRule_152 ?_
      refine lv_aload_n hx hb dX9_layRule_153 rfl (lv_at hl 0 rfl) ?_
      refine va_get (ci := 9) (v := .ref qSX) (C := RX9) (T := TX9) (N := 24) hx hb hts hin9 hown hK hP 0 rfl rfl 20 (by decide) hfl53 (fun _ h9 => h9) rfl dX9_layRule_154 ?_
      refine lv_iconst (v := 3) hx hb dX9_layRule_157 (by decide) ?_
      obtain ⟨hi_17, hF⟩ := gd_in_s hF
      refine va_iald hx hb hK hP 15 0 rfl rfl hi_17 dX9_layRule_158 ?_
      refine lv_isub hx hb dX9_layRule_159 ?_
      refine lv_goto (tgt := 164) hx hb dX9_layRule_160 (by decide) ?_
      exact hJ164 (((6 * (a2 - 1)) - ((upd mSX t1.toNatClampNeg t0) (2 : Int32).toNatClampNeg)) - ((upd mSX t1.toNatClampNeg t0) (3 : Int32).toNatClampNeg)) 1 (upd mSX t1.toNatClampNeg t0) _ _ _ hF hP hD hS (lv_sub hl [] rfl)
  have hJ89 : ∀ (a1 : Int32) (a2 : Int32) (a3 : Int32) (t0 : Int32) (t1 : Int32) (mSX : Nat → Int32) (H : Heap) (locs : List Loc) (ls : Array Slot), JX9_layRule_89 FI CO CR SI SR BO a1 a2 a3 t0 t1 mSX = some res → va_P (gD G) vwCl (wMod G h0 qDR qLA qLE qCE qFI qCO qCR qSI qSR qMO qBO qPX qPY qPZ qSX dr bo po sx sy sw tx ty tz DR LA LE CE FI CO CR SI SR MO BO PX PY PZ mSX) H → va_D A (wMod G h0 qDR qLA qLE qCE qFI qCO qCR qSI qSR qMO qBO qPX qPY qPZ qSX dr bo po sx sy sw tx ty tz DR LA LE CE FI CO CR SI SR MO BO PX PY PZ mSX) → va_S A s.heap H locs → lv_has ls 5 [(0, .ref h0), (1, .int a1), (2, .int a2), (3, .int a3)] → W p l e (headSpec wsX9_layRule rX9_layRule).room s m ([.ref h0, .int p1] : List Value).toArray below meth c H locs 0 0 (MQ below (va_Qv (fun (u : (Nat → Int32)) => u = res) (fun u t => qW G A (wMod G h0 qDR qLA qLE qCE qFI qCO qCR qSI qSR qMO qBO qPX qPY qPZ qSX dr bo po sx sy sw tx ty tz DR LA LE CE FI CO CR SI SR MO BO PX PY PZ u) t) A) ([.ref h0, .int p1] : List Value).toArray s 0 0 A) (F0 m 89 ls [.int t0, .int t1, .ref qSX]) := by
    intro a1 a2 a3 t0 t1 mSX H locs ls hF hP hD hS hl
    unfold JX9_layRule_89 at hF
    obtain ⟨hi_9, hF⟩ := gd_in_s hF
    refine va_iast hx hb hK hP hD hS 15 0 rfl rfl hi_9 dX9_layRule_89 (fun H locs hP hD hS => ?_)
    have hP : va_P (gD G) vwCl (wMod G h0 qDR qLA qLE qCE qFI qCO qCR qSI qSR qMO qBO qPX qPY qPZ qSX dr bo po sx sy sw tx ty tz DR LA LE CE FI CO CR SI SR MO BO PX PY PZ (upd mSX t1.toNatClampNeg t0)) H := hP
    have hD : va_D A (wMod G h0 qDR qLA qLE qCE qFI qCO qCR qSI qSR qMO qBO qPX qPY qPZ qSX dr bo po sx sy sw tx ty tz DR LA LE CE FI CO CR SI SR MO BO PX PY PZ (upd mSX t1.toNatClampNeg t0)) := hD
    refine lv_aload_n hx hb dX9_layRule_90 rfl (lv_at hl 0 rfl) ?_
    refine va_get (ci := 9) (v := .ref qSX) (C := RX9) (T := TX9) (N := 24) hx hb hts hin9 hown hK hP 0 rfl rfl 20 (by decide) hfl53 (fun _ h9 => h9) rfl dX9_layRule_91 ?_
    refine lv_iconst (v := 2) hx hb dX9_layRule_94 (by decide) ?_
    refine lv_aload_n hx hb dX9_layRule_95 rfl (lv_at hl 0 rfl) ?_
    refine va_get (ci := 9) (v := .ref qFI) (C := RX9) (T := TX9) (N := 24) hx hb hts hin9 hown hK hP 0 rfl rfl 6 (by decide) hfl23 (fun _ h9 => h9) rfl dX9_layRule_96 ?_
    refine lv_iload_n hx hb dX9_layRule_99 rfl (lv_at hl 1 rfl) ?_
    obtain ⟨hi_10, hF⟩ := gd_in_s hF
    refine va_iald hx hb hK hP 5 0 rfl rfl hi_10 dX9_layRule_100 ?_
    refine lv_iconst (v := 1) hx hb dX9_layRule_101 (by decide) ?_
    refine lv_icmp_le (tgt := 124) hx hb dX9_layRule_102 (by decide) (fun c_11 => ?_) (fun c_11 => ?_)
    · replace hF := it_p c_11 hF
      refine lv_iconst (v := 0) hx hb dX9_layRule_124 (by decide) ?_
      exact hJ125 a1 a2 0 2 (upd mSX t1.toNatClampNeg t0) _ _ _ hF hP hD hS (lv_sub hl [0, 1, 2] rfl)
    · replace hF := it_n c_11 hF
      refine lv_iconst (v := 3) hx hb dX9_layRule_105 (by decide) ?_
      refine lv_iload_n hx hb dX9_layRule_106 rfl (lv_at hl 3 rfl) ?_
      refine lv_iconst (v := 2) hx hb dX9_layRule_107 (by decide) ?_
      refine lv_iload_n hx hb dX9_layRule_108 rfl (lv_at hl 2 rfl) ?_
      refine lv_imul hx hb dX9_layRule_109 ?_
      refine lv_isub hx hb dX9_layRule_110 ?_
      refine lv_iconst (v := 1) hx hb dX9_layRule_111 (by decide) ?_
      refine lv_iadd hx hb dX9_layRule_112 ?_
      refine lv_aload_n hx hb dX9_layRule_113 rfl (lv_at hl 0 rfl) ?_
      refine va_get (ci := 9) (v := .ref qSX) (C := RX9) (T := TX9) (N := 24) hx hb hts hin9 hown hK hP 0 rfl rfl 20 (by decide) hfl53 (fun _ h9 => h9) rfl dX9_layRule_114 ?_
      refine lv_iconst (v := 3) hx hb dX9_layRule_117 (by decide) ?_
      obtain ⟨hi_18, hF⟩ := gd_in_s hF
      refine va_iald hx hb hK hP 15 0 rfl rfl hi_18 dX9_layRule_118 ?_
      refine lv_isub hx hb dX9_layRule_119 ?_
      refine lv_imul hx hb dX9_layRule_120 ?_
      refine lv_goto (tgt := 125) hx hb dX9_layRule_121 (by decide) ?_
      exact hJ125 a1 a2 (3 * (((a3 - (2 * a2)) + 1) - ((upd mSX t1.toNatClampNeg t0) (3 : Int32).toNatClampNeg))) 2 (upd mSX t1.toNatClampNeg t0) _ _ _ hF hP hD hS (lv_sub hl [0, 1, 2] rfl)
  have hJ48 : ∀ (a1 : Int32) (a2 : Int32) (a3 : Int32) (t0 : Int32) (mSX : Nat → Int32) (H : Heap) (locs : List Loc) (ls : Array Slot), JX9_layRule_48 FI CO CR SI SR BO a1 a2 a3 t0 mSX = some res → va_P (gD G) vwCl (wMod G h0 qDR qLA qLE qCE qFI qCO qCR qSI qSR qMO qBO qPX qPY qPZ qSX dr bo po sx sy sw tx ty tz DR LA LE CE FI CO CR SI SR MO BO PX PY PZ mSX) H → va_D A (wMod G h0 qDR qLA qLE qCE qFI qCO qCR qSI qSR qMO qBO qPX qPY qPZ qSX dr bo po sx sy sw tx ty tz DR LA LE CE FI CO CR SI SR MO BO PX PY PZ mSX) → va_S A s.heap H locs → lv_has ls 5 [(0, .ref h0), (1, .int a1), (2, .int a2), (3, .int a3)] → W p l e (headSpec wsX9_layRule rX9_layRule).room s m ([.ref h0, .int p1] : List Value).toArray below meth c H locs 0 0 (MQ below (va_Qv (fun (u : (Nat → Int32)) => u = res) (fun u t => qW G A (wMod G h0 qDR qLA qLE qCE qFI qCO qCR qSI qSR qMO qBO qPX qPY qPZ qSX dr bo po sx sy sw tx ty tz DR LA LE CE FI CO CR SI SR MO BO PX PY PZ u) t) A) ([.ref h0, .int p1] : List Value).toArray s 0 0 A) (F0 m 48 ls [.int t0]) := by
    intro a1 a2 a3 t0 mSX H locs ls hF hP hD hS hl
    unfold JX9_layRule_48 at hF
    refine lv_istore (lv' := [(4, .int t0), (0, .ref h0), (1, .int a1), (2, .int a2), (3, .int a3)]) hx hb dX9_layRule_48 hl (by decide) rfl (fun ls hl => ?_)
    refine lv_aload_n hx hb dX9_layRule_50 rfl (lv_at hl 1 rfl) ?_
    refine va_get (ci := 9) (v := .ref qSX) (C := RX9) (T := TX9) (N := 24) hx hb hts hin9 hown hK hP 0 rfl rfl 20 (by decide) hfl53 (fun _ h9 => h9) rfl dX9_layRule_51 ?_
    refine lv_iconst (v := 0) hx hb dX9_layRule_54 (by decide) ?_
    refine lv_bipush (v := 6) hx hb dX9_layRule_55 (by decide) ?_
    obtain ⟨hi_6, hF⟩ := gd_in_s hF
    refine va_iast hx hb hK hP hD hS 15 0 rfl rfl hi_6 dX9_layRule_57 (fun H locs hP hD hS => ?_)
    have hP : va_P (gD G) vwCl (wMod G h0 qDR qLA qLE qCE qFI qCO qCR qSI qSR qMO qBO qPX qPY qPZ qSX dr bo po sx sy sw tx ty tz DR LA LE CE FI CO CR SI SR MO BO PX PY PZ (upd mSX (0 : Int32).toNatClampNeg 6)) H := hP
    have hD : va_D A (wMod G h0 qDR qLA qLE qCE qFI qCO qCR qSI qSR qMO qBO qPX qPY qPZ qSX dr bo po sx sy sw tx ty tz DR LA LE CE FI CO CR SI SR MO BO PX PY PZ (upd mSX (0 : Int32).toNatClampNeg 6)) := hD
    refine lv_aload_n hx hb dX9_layRule_58 rfl (lv_at hl 1 rfl) ?_
    refine va_get (ci := 9) (v := .ref qSX) (C := RX9) (T := TX9) (N := 24) hx hb hts hin9 hown hK hP 0 rfl rfl 20 (by decide) hfl53 (fun _ h9 => h9) rfl dX9_layRule_59 ?_
    refine lv_iconst (v := 3) hx hb dX9_layRule_62 (by decide) ?_
    refine lv_aload_n hx hb dX9_layRule_63 rfl (lv_at hl 1 rfl) ?_
    refine va_get (ci := 9) (v := .ref qFI) (C := RX9) (T := TX9) (N := 24) hx hb hts hin9 hown hK hP 0 rfl rfl 6 (by decide) hfl23 (fun _ h9 => h9) rfl dX9_layRule_64 ?_
    refine lv_iload_n hx hb dX9_layRule_67 rfl (lv_at hl 2 rfl) ?_
    obtain ⟨hi_7, hF⟩ := gd_in_s hF
    refine va_iald hx hb hK hP 5 0 rfl rfl hi_7 dX9_layRule_68 ?_
    refine lv_iconst (v := 2) hx hb dX9_layRule_69 (by decide) ?_
    refine lv_icmp_le (tgt := 88) hx hb dX9_layRule_70 (by decide) (fun c_8 => ?_) (fun c_8 => ?_)
    · replace hF := it_p c_8 hF
      refine lv_iconst (v := 0) hx hb dX9_layRule_88 (by decide) ?_
      exact hJ89 a1 a2 a3 0 3 (upd mSX (0 : Int32).toNatClampNeg 6) _ _ _ hF hP hD hS (lv_sub hl [1, 2, 3, 4] rfl)
    · replace hF := it_n c_8 hF
      refine lv_iload hx hb dX9_layRule_73 (lv_at hl 0 rfl) ?_
      refine lv_iconst (v := 3) hx hb dX9_layRule_75 (by decide) ?_
      refine lv_iload_n hx hb dX9_layRule_76 rfl (lv_at hl 4 rfl) ?_
      refine lv_imul hx hb dX9_layRule_77 ?_
      refine lv_isub hx hb dX9_layRule_78 ?_
      refine lv_iconst (v := 3) hx hb dX9_layRule_79 (by decide) ?_
      refine lv_iload_n hx hb dX9_layRule_80 rfl (lv_at hl 3 rfl) ?_
      refine lv_imul hx hb dX9_layRule_81 ?_
      refine lv_iadd hx hb dX9_layRule_82 ?_
      refine lv_iconst (v := 1) hx hb dX9_layRule_83 (by decide) ?_
      refine lv_isub hx hb dX9_layRule_84 ?_
      refine lv_goto (tgt := 89) hx hb dX9_layRule_85 (by decide) ?_
      exact hJ89 a1 a2 a3 (((t0 - (3 * a3)) + (3 * a2)) - 1) 3 (upd mSX (0 : Int32).toNatClampNeg 6) _ _ _ hF hP hD hS (lv_sub hl [1, 2, 3, 4] rfl)
  have hJ27 : ∀ (a1 : Int32) (a2 : Int32) (t0 : Int32) (mSX : Nat → Int32) (H : Heap) (locs : List Loc) (ls : Array Slot), JX9_layRule_27 FI CO CR SI SR BO a1 a2 t0 mSX = some res → va_P (gD G) vwCl (wMod G h0 qDR qLA qLE qCE qFI qCO qCR qSI qSR qMO qBO qPX qPY qPZ qSX dr bo po sx sy sw tx ty tz DR LA LE CE FI CO CR SI SR MO BO PX PY PZ mSX) H → va_D A (wMod G h0 qDR qLA qLE qCE qFI qCO qCR qSI qSR qMO qBO qPX qPY qPZ qSX dr bo po sx sy sw tx ty tz DR LA LE CE FI CO CR SI SR MO BO PX PY PZ mSX) → va_S A s.heap H locs → lv_has ls 5 [(0, .ref h0), (1, .int a1), (2, .int a2)] → W p l e (headSpec wsX9_layRule rX9_layRule).room s m ([.ref h0, .int p1] : List Value).toArray below meth c H locs 0 0 (MQ below (va_Qv (fun (u : (Nat → Int32)) => u = res) (fun u t => qW G A (wMod G h0 qDR qLA qLE qCE qFI qCO qCR qSI qSR qMO qBO qPX qPY qPZ qSX dr bo po sx sy sw tx ty tz DR LA LE CE FI CO CR SI SR MO BO PX PY PZ u) t) A) ([.ref h0, .int p1] : List Value).toArray s 0 0 A) (F0 m 27 ls [.int t0]) := by
    intro a1 a2 t0 mSX H locs ls hF hP hD hS hl
    unfold JX9_layRule_27 at hF
    refine lv_istore_n (lv' := [(3, .int t0), (0, .ref h0), (1, .int a1), (2, .int a2)]) hx hb dX9_layRule_27 rfl hl (by decide) rfl (fun ls hl => ?_)
    refine lv_aload_n hx hb dX9_layRule_28 rfl (lv_at hl 1 rfl) ?_
    refine va_get (ci := 9) (v := .ref qFI) (C := RX9) (T := TX9) (N := 24) hx hb hts hin9 hown hK hP 0 rfl rfl 6 (by decide) hfl23 (fun _ h9 => h9) rfl dX9_layRule_29 ?_
    refine lv_iload_n hx hb dX9_layRule_32 rfl (lv_at hl 2 rfl) ?_
    obtain ⟨hi_4, hF⟩ := gd_in_s hF
    refine va_iald hx hb hK hP 5 0 rfl rfl hi_4 dX9_layRule_33 ?_
    refine lv_iconst (v := 2) hx hb dX9_layRule_34 (by decide) ?_
    refine lv_icmp_le (tgt := 47) hx hb dX9_layRule_35 (by decide) (fun c_5 => ?_) (fun c_5 => ?_)
    · replace hF := it_p c_5 hF
      refine lv_iconst (v := 0) hx hb dX9_layRule_47 (by decide) ?_
      exact hJ48 a1 a2 t0 0 mSX _ _ _ hF hP hD hS (lv_sub hl [1, 2, 3, 0] rfl)
    · replace hF := it_n c_5 hF
      refine lv_aload_n hx hb dX9_layRule_38 rfl (lv_at hl 1 rfl) ?_
      refine lv_iload_n hx hb dX9_layRule_39 rfl (lv_at hl 2 rfl) ?_
      refine lv_iconst (v := 3) hx hb dX9_layRule_40 (by decide) ?_
      obtain ⟨v_19, hv_19, hF⟩ := bd_s hF
      refine ro_ie (va_runV (As := [.int a1, .int 3]) (rest := []) ⟨hx, hb, hml, hown, hts⟩ (kX9_countOf l G h0 qDR qLA qLE qCE qFI qCO qCR qSI qSR qMO qBO qPX qPY qPZ qSX dr bo po sx sy sw tx ty tz DR LA LE CE FI CO CR SI SR MO BO PX PY PZ mSX a1 3 v_19 hv_19) (cwV 2 hts gX9_layRule_X9_countOf rfl rfl rfl (by decide +kernel) ⟨Nat.le_of_ble_eq_true rfl, Nat.le_of_ble_eq_true rfl⟩) (pvR (q0 := 0) 9 hK (hP.sub (ws' := (wMod G h0 qDR qLA qLE qCE qFI qCO qCR qSI qSR qMO qBO qPX qPY qPZ qSX dr bo po sx sy sw tx ty tz DR LA LE CE FI CO CR SI SR MO BO PX PY PZ mSX)) [0, 1, 2, 3, 4, 5, 6, 7, 8, 9, 10, 11, 12, 13, 14, 15] rfl) rfl rfl) rfl rfl hl.1 rfl (lv_room (Nat.le_of_ble_eq_true rfl)) dX9_layRule_41 ⟨Nat.le_of_ble_eq_true rfl, Nat.le_of_ble_eq_true rfl⟩) ?_
      refine lv_goto (tgt := 48) hx hb dX9_layRule_44 (by decide) ?_
      exact hJ48 a1 a2 t0 v_19 mSX _ _ _ hF hP hD hS (lv_sub hl [1, 2, 3, 0] rfl)
  unfold fX9_layRule at hF
  refine lv_aload_n hx hb dX9_layRule_0 rfl (lv_at hl 0 rfl) ?_
  refine lv_iload_n hx hb dX9_layRule_1 rfl (lv_at hl 1 rfl) ?_
  refine lv_iconst (v := 1) hx hb dX9_layRule_2 (by decide) ?_
  obtain ⟨v_1, hv_1, hF⟩ := bd_s hF
  refine ro_ie (va_runV (As := [.int p1, .int 1]) (rest := []) ⟨hx, hb, hml, hown, hts⟩ (kX9_countOf l G h0 qDR qLA qLE qCE qFI qCO qCR qSI qSR qMO qBO qPX qPY qPZ qSX dr bo po sx sy sw tx ty tz DR LA LE CE FI CO CR SI SR MO BO PX PY PZ SX p1 1 v_1 hv_1) (cwV 2 hts gX9_layRule_X9_countOf rfl rfl rfl (by decide +kernel) ⟨Nat.le_of_ble_eq_true rfl, Nat.le_of_ble_eq_true rfl⟩) (pvR (q0 := 0) 9 hK (hP.sub (ws' := (wMod G h0 qDR qLA qLE qCE qFI qCO qCR qSI qSR qMO qBO qPX qPY qPZ qSX dr bo po sx sy sw tx ty tz DR LA LE CE FI CO CR SI SR MO BO PX PY PZ SX)) [0, 1, 2, 3, 4, 5, 6, 7, 8, 9, 10, 11, 12, 13, 14, 15] rfl) rfl rfl) rfl rfl hl.1 rfl (lv_room (Nat.le_of_ble_eq_true rfl)) dX9_layRule_3 ⟨Nat.le_of_ble_eq_true rfl, Nat.le_of_ble_eq_true rfl⟩) ?_
  refine lv_istore_n (lv' := [(2, .int v_1), (0, .ref h0), (1, .int p1)]) hx hb dX9_layRule_6 rfl hl (by decide) rfl (fun ls hl => ?_)
  refine lv_aload_n hx hb dX9_layRule_7 rfl (lv_at hl 1 rfl) ?_
  refine va_get (ci := 9) (v := .ref qFI) (C := RX9) (T := TX9) (N := 24) hx hb hts hin9 hown hK hP 0 rfl rfl 6 (by decide) hfl23 (fun _ h9 => h9) rfl dX9_layRule_8 ?_
  refine lv_iload_n hx hb dX9_layRule_11 rfl (lv_at hl 2 rfl) ?_
  obtain ⟨hi_2, hF⟩ := gd_in_s hF
  refine va_iald hx hb hK hP 5 0 rfl rfl hi_2 dX9_layRule_12 ?_
  refine lv_iconst (v := 1) hx hb dX9_layRule_13 (by decide) ?_
  refine lv_icmp_le (tgt := 26) hx hb dX9_layRule_14 (by decide) (fun c_3 => ?_) (fun c_3 => ?_)
  · replace hF := it_p c_3 hF
    refine lv_iconst (v := 0) hx hb dX9_layRule_26 (by decide) ?_
    exact hJ27 p1 v_1 0 SX _ _ _ hF hP hD hS (lv_sub hl [1, 2, 0] rfl)
  · replace hF := it_n c_3 hF
    refine lv_aload_n hx hb dX9_layRule_17 rfl (lv_at hl 1 rfl) ?_
    refine lv_iload_n hx hb dX9_layRule_18 rfl (lv_at hl 2 rfl) ?_
    refine lv_iconst (v := 2) hx hb dX9_layRule_19 (by decide) ?_
    obtain ⟨v_20, hv_20, hF⟩ := bd_s hF
    refine ro_ie (va_runV (As := [.int p1, .int 2]) (rest := []) ⟨hx, hb, hml, hown, hts⟩ (kX9_countOf l G h0 qDR qLA qLE qCE qFI qCO qCR qSI qSR qMO qBO qPX qPY qPZ qSX dr bo po sx sy sw tx ty tz DR LA LE CE FI CO CR SI SR MO BO PX PY PZ SX p1 2 v_20 hv_20) (cwV 2 hts gX9_layRule_X9_countOf rfl rfl rfl (by decide +kernel) ⟨Nat.le_of_ble_eq_true rfl, Nat.le_of_ble_eq_true rfl⟩) (pvR (q0 := 0) 9 hK (hP.sub (ws' := (wMod G h0 qDR qLA qLE qCE qFI qCO qCR qSI qSR qMO qBO qPX qPY qPZ qSX dr bo po sx sy sw tx ty tz DR LA LE CE FI CO CR SI SR MO BO PX PY PZ SX)) [0, 1, 2, 3, 4, 5, 6, 7, 8, 9, 10, 11, 12, 13, 14, 15] rfl) rfl rfl) rfl rfl hl.1 rfl (lv_room (Nat.le_of_ble_eq_true rfl)) dX9_layRule_20 ⟨Nat.le_of_ble_eq_true rfl, Nat.le_of_ble_eq_true rfl⟩) ?_
    refine lv_goto (tgt := 27) hx hb dX9_layRule_23 (by decide) ?_
    exact hJ27 p1 v_1 v_20 SX _ _ _ hF hP hD hS (lv_sub hl [1, 2, 0] rfl)
def fX9_number (bo : Int32) (FI : Nat → Int32) (CO : Nat → Int32) (CR : Nat → Int32) (SI : Nat → Int32) (SR : Nat → Int32) (BO : Nat → Int32) (SX : Nat → Int32) (p1 : Int32) (p2 : Int32) : Option (Int32 × (Nat → Int32)) :=
  (bd (fX9_is bo p1) (fun v_1 => (if v_1 = 0 then (some ((-1000000), SX)) else (bd (fX9_in p2.toInt64 0 3) (fun v_4 => (if v_4 = 0 then (some ((-1000000), SX)) else (bd (fX9_layRule FI CO CR SI SR BO SX p1) (fun v_7 => (gd_in p2 4 (some (v_7 p2.toNatClampNeg, v_7)))))))))))
abbrev rX9_number : Room := { frames := 4, cells := 0, slots := 0, locals := 125 }
set_option maxHeartbeats 40000000 in
set_option maxRecDepth 100000 in
theorem kX9_number (l : Launch) (G : GT) (h0 qDR qLA qLE qCE qFI qCO qCR qSI qSR qMO qBO qPX qPY qPZ qSX : Nat) (sz : Nat) (dr : Int32) (bo : Int32) (po : Int32) (sx : Int32) (sy : Int32) (sw : Int32) (tx : Int32) (ty : Int32) (tz : Int32) (DR : Nat → Int32) (LA : Nat → Int32) (LE : Nat → Int32) (CE : Nat → Int64) (FI : Nat → Int32) (CO : Nat → Int32) (CR : Nat → Int32) (SI : Nat → Int32) (SR : Nat → Int32) (MO : Nat → Int32) (BO : Nat → Int32) (PX : Nat → Int32) (PY : Nat → Int32) (PZ : Nat → Int32) (SX : Nat → Int32) (p1 : Int32) (p2 : Int32) (res : Int32 × (Nat → Int32)) (hF : fX9_number bo FI CO CR SI SR BO SX p1 p2 = some res) : Met l yX9_number wsX9_number rX9_number (va_Pc [.ref h0, .int p1, .int p2] (pW G sz (wMod G h0 qDR qLA qLE qCE qFI qCO qCR qSI qSR qMO qBO qPX qPY qPZ qSX dr bo po sx sy sw tx ty tz DR LA LE CE FI CO CR SI SR MO BO PX PY PZ SX))) (va_Qi (fun (r : Int32) (u : (Nat → Int32)) => r = res.1 ∧ u = res.2) (fun u t => qW G (va_A (wMod G h0 qDR qLA qLE qCE qFI qCO qCR qSI qSR qMO qBO qPX qPY qPZ qSX dr bo po sx sy sw tx ty tz DR LA LE CE FI CO CR SI SR MO BO PX PY PZ SX) sz) (wMod G h0 qDR qLA qLE qCE qFI qCO qCR qSI qSR qMO qBO qPX qPY qPZ qSX dr bo po sx sy sw tx ty tz DR LA LE CE FI CO CR SI SR MO BO PX PY PZ u) t) (va_A (wMod G h0 qDR qLA qLE qCE qFI qCO qCR qSI qSR qMO qBO qPX qPY qPZ qSX dr bo po sx sy sw tx ty tz DR LA LE CE FI CO CR SI SR MO BO PX PY PZ SX) sz)) 0 0 (va_A (wMod G h0 qDR qLA qLE qCE qFI qCO qCR qSI qSR qMO qBO qPX qPY qPZ qSX dr bo po sx sy sw tx ty tz DR LA LE CE FI CO CR SI SR MO BO PX PY PZ SX) sz) := by
  refine Met.ofW (cc := cX9_number) (maxL := 3) (ret := (some .int)) (by decide) rfl ?_
  intro p e s m args below meth c s₁ B hml hv
  obtain ⟨rfl, hsz, hP, hK, hD0⟩ := hv
  have hx := B.exec
  have hb := B.bytes
  have hr := B.returns
  have hts := atoms_spec (ws := wsX9_number) B.pre
  have hown : s.vm.findClass RX9 = some m.cls := findClass_of_methodNamed B.named
  have hlocks := B.notSynchronized
  subst hsz
  have hD := hD0.self (sz := s.heap.size)
  generalize hAe : va_A (wMod G h0 qDR qLA qLE qCE qFI qCO qCR qSI qSR qMO qBO qPX qPY qPZ qSX dr bo po sx sy sw tx ty tz DR LA LE CE FI CO CR SI SR MO BO PX PY PZ SX) s.heap.size = A at hD ⊢
  have hA : ∀ q : Nat, s.heap.size ≤ q → A q := fun q h => by rw [← hAe]; exact Or.inr h
  have hS : va_S A s.heap s.heap [] := va_S.rf
  have hcn177 := hts (.constant RX9 177 (-1000000)) (by decide +kernel)
  have hcn72 := hts (.constantLong RX9 72 (3)) (by decide +kernel)
  have hin9 : ∀ w ∈ u_ws RX9 TX9 24, w ∈ wsX9_number := by decide +kernel
  have hfl53 := hts (.fieldLink RX9 53 "SwellBodiesModel" "six" "[I") (by decide +kernel)
  have hl := lv_entry ([.ref h0, .int p1, .int p2]) (n := 3) (Nat.le_of_ble_eq_true rfl)
  rw [lg_entry_eq]
  generalize (lg_sl ([.ref h0, .int p1, .int p2]) ++ List.replicate (3 - (lg_sl ([.ref h0, .int p1, .int p2])).length) Slot.unset).toArray = ls at hl ⊢
  have hl : lv_has ls 3 [(0, .ref h0), (1, .int p1), (2, .int p2)] := hl
  unfold fX9_number at hF
  refine lv_aload_n hx hb dX9_number_0 rfl (lv_at hl 0 rfl) ?_
  refine lv_iload_n hx hb dX9_number_1 rfl (lv_at hl 1 rfl) ?_
  obtain ⟨v_1, hv_1, hF⟩ := bd_s hF
  refine ro_ze (va_runV (As := [.int p1]) (rest := []) ⟨hx, hb, hml, hown, hts⟩ (kX9_is l G h0 qDR qLA qLE qCE qFI qCO qCR qSI qSR qMO qBO qPX qPY qPZ qSX dr bo po sx sy sw tx ty tz DR LA LE CE FI CO CR SI SR MO BO PX PY PZ SX p1 v_1 hv_1) (cwV 1 hts gX9_number_X9_is rfl rfl rfl (by decide +kernel) ⟨Nat.le_of_ble_eq_true rfl, Nat.le_of_ble_eq_true rfl⟩) (pvR (q0 := 0) 9 hK (hP.sub (ws' := (wMod G h0 qDR qLA qLE qCE qFI qCO qCR qSI qSR qMO qBO qPX qPY qPZ qSX dr bo po sx sy sw tx ty tz DR LA LE CE FI CO CR SI SR MO BO PX PY PZ SX)) [0, 1, 2, 3, 4, 5, 6, 7, 8, 9, 10, 11, 12, 13, 14, 15] rfl) rfl rfl) rfl rfl hl.1 rfl (lv_room (Nat.le_of_ble_eq_true rfl)) dX9_number_2 ⟨Nat.le_of_ble_eq_true rfl, Nat.le_of_ble_eq_true rfl⟩) (fun hb_2 => ?_)
  refine lv_if_eq (tgt := 20) hx hb dX9_number_5 (by decide) (fun c_3 => ?_) (fun c_3 => ?_)
  · replace hF := it_p c_3 hF
    refine lv_ldc (v := (-1000000)) hx hb hown hcn177 dX9_number_20 ?_
    exact W.iret (v := (-1000000)) hx hb hr  (fun t ht hW => ⟨⟨(-1000000), SX, rfl, pr_e hF, qW_mk ht hP hK hW hD⟩, hS.F ht⟩) hS.2.2 dX9_number_22
  · replace hF := it_n c_3 hF
    refine lv_iload_n hx hb dX9_number_8 rfl (lv_at hl 2 rfl) ?_
    refine lv_i2l hx hb dX9_number_9 rfl ?_
    refine lv_lconst (v := 0) hx hb dX9_number_10 (by decide) ?_
    refine lv_ldc2 (v := 3) hx hb hown hcn72 dX9_number_11 ?_
    obtain ⟨v_4, hv_4, hF⟩ := bd_s hF
    refine ro_ze (va_runS (As := [.long p2.toInt64, .long 0, .long 3]) (rest := []) ⟨hx, hb, hml, hown, hts⟩ (kX9_in l G p2.toInt64 0 3 v_4 hv_4) (va_cwS 3 hts gX9_number_X9_in rfl rfl rfl (by decide +kernel) ⟨Nat.le_of_ble_eq_true rfl, Nat.le_of_ble_eq_true rfl⟩) (psR hK (hP.sub (ws' := ([] : va_W)) [] rfl)) rfl rfl hl.1 rfl (lv_room (Nat.le_of_ble_eq_true rfl)) dX9_number_14 ⟨Nat.le_of_ble_eq_true rfl, Nat.le_of_ble_eq_true rfl⟩) (fun hb_5 => ?_)
    refine lv_if_ne (tgt := 23) hx hb dX9_number_17 (by decide) (fun c_6 => ?_) (fun c_6 => ?_)
    · replace hF := it_n c_6 hF
      refine lv_aload_n hx hb dX9_number_23 rfl (lv_at hl 0 rfl) ?_
      refine lv_iload_n hx hb dX9_number_24 rfl (lv_at hl 1 rfl) ?_
      obtain ⟨v_7, hv_7, hF⟩ := bd_s hF
      refine rw_ve (wf := (fun (u : (Nat → Int32)) => (wMod G h0 qDR qLA qLE qCE qFI qCO qCR qSI qSR qMO qBO qPX qPY qPZ qSX dr bo po sx sy sw tx ty tz DR LA LE CE FI CO CR SI SR MO BO PX PY PZ u))) (wr := []) (va_runV (As := [.int p1]) (rest := []) ⟨hx, hb, hml, hown, hts⟩ (kX9_layRule l G h0 qDR qLA qLE qCE qFI qCO qCR qSI qSR qMO qBO qPX qPY qPZ qSX s.heap.size dr bo po sx sy sw tx ty tz DR LA LE CE FI CO CR SI SR MO BO PX PY PZ SX p1 v_7 hv_7) (cwV 1 hts gX9_number_X9_layRule rfl rfl rfl (by decide +kernel) ⟨Nat.le_of_ble_eq_true rfl, Nat.le_of_ble_eq_true rfl⟩) (pvW (q0 := 0) 9 hK (hP.sub (ws' := (wMod G h0 qDR qLA qLE qCE qFI qCO qCR qSI qSR qMO qBO qPX qPY qPZ qSX dr bo po sx sy sw tx ty tz DR LA LE CE FI CO CR SI SR MO BO PX PY PZ SX)) [0, 1, 2, 3, 4, 5, 6, 7, 8, 9, 10, 11, 12, 13, 14, 15] rfl) (hD.sub (ws' := (wMod G h0 qDR qLA qLE qCE qFI qCO qCR qSI qSR qMO qBO qPX qPY qPZ qSX dr bo po sx sy sw tx ty tz DR LA LE CE FI CO CR SI SR MO BO PX PY PZ SX)) [0, 1, 2, 3, 4, 5, 6, 7, 8, 9, 10, 11, 12, 13, 14, 15] (by decide) rfl) rfl rfl) rfl rfl hl.1 rfl (lv_room (Nat.le_of_ble_eq_true rfl)) dX9_number_25 ⟨Nat.le_of_ble_eq_true rfl, Nat.le_of_ble_eq_true rfl⟩) hP hD hS hA [0, 1, 2, 3, 4, 5, 6, 7, 8, 9, 10, 11, 12, 13, 14, 15] [] rfl rfl (by decide) (by decide) (fun H locs  hP hD hS => ?_)
      have hP : va_P (gD G) vwCl (wMod G h0 qDR qLA qLE qCE qFI qCO qCR qSI qSR qMO qBO qPX qPY qPZ qSX dr bo po sx sy sw tx ty tz DR LA LE CE FI CO CR SI SR MO BO PX PY PZ v_7) H := hP.sub [0, 1, 2, 3, 4, 5, 6, 7, 8, 9, 10, 11, 12, 13, 14, 15] rfl
      have hD : va_D A (wMod G h0 qDR qLA qLE qCE qFI qCO qCR qSI qSR qMO qBO qPX qPY qPZ qSX dr bo po sx sy sw tx ty tz DR LA LE CE FI CO CR SI SR MO BO PX PY PZ v_7) := hD.sub [0, 1, 2, 3, 4, 5, 6, 7, 8, 9, 10, 11, 12, 13, 14, 15] (by decide) rfl
      refine lv_aload_n hx hb dX9_number_28 rfl (lv_at hl 0 rfl) ?_
      refine va_get (ci := 9) (v := .ref qSX) (C := RX9) (T := TX9) (N := 24) hx hb hts hin9 hown hK hP 0 rfl rfl 20 (by decide) hfl53 (fun _ h9 => h9) rfl dX9_number_29 ?_
      refine lv_iload_n hx hb dX9_number_32 rfl (lv_at hl 2 rfl) ?_
      obtain ⟨hi_8, hF⟩ := gd_in_s hF
      refine va_iald hx hb hK hP 15 0 rfl rfl hi_8 dX9_number_33 ?_
      exact W.iret (v := v_7 p2.toNatClampNeg) hx hb hr  (fun t ht hW => ⟨⟨v_7 p2.toNatClampNeg, v_7, rfl, pr_e hF, qW_mk ht hP hK hW hD⟩, hS.F ht⟩) hS.2.2 dX9_number_34
    · replace hF := it_p c_6 hF
      refine lv_ldc (v := (-1000000)) hx hb hown hcn177 dX9_number_20 ?_
      exact W.iret (v := (-1000000)) hx hb hr  (fun t ht hW => ⟨⟨(-1000000), SX, rfl, pr_e hF, qW_mk ht hP hK hW hD⟩, hS.F ht⟩) hS.2.2 dX9_number_22
def LX9_rule_42 (bo : Int32) (FI : Nat → Int32) (CO : Nat → Int32) (CR : Nat → Int32) (SI : Nat → Int32) (SR : Nat → Int32) (BO : Nat → Int32)  : Nat → Int32 → Int64 → Int32 → (Nat → Int32) → Option (Int64 × (Nat → Int32))
  | 0, _, _, _, _ => none
  | k + 1, a2, a3, a5, mSX =>
  (if a5 < 0 then (some (a3 / 6, mSX)) else (gd_in a5 4 (cut ((a3 * a2.toInt64) + ((mSX a5.toNatClampNeg).toInt64)) (fun c_11 => (LX9_rule_42 bo FI CO CR SI SR BO k a2 c_11 (a5 + (-1)) mSX)))))
def fX9_rule (bo : Int32) (FI : Nat → Int32) (CO : Nat → Int32) (CR : Nat → Int32) (SI : Nat → Int32) (SR : Nat → Int32) (BO : Nat → Int32) (SX : Nat → Int32) (p1 : Int32) (p2 : Int32) : Option (Int64 × (Nat → Int32)) :=
  (bd (fX9_is bo p1) (fun v_1 => (if v_1 = 0 then (some ((-1), SX)) else (bd (fX9_in p2.toInt64 (-1000) 1000) (fun v_4 => (if v_4 = 0 then (some ((-1), SX)) else (bd (fX9_layRule FI CO CR SI SR BO SX p1) (fun v_7 => (gd_in 3 4 (LX9_rule_42 bo FI CO CR SI SR BO FU p2 ((v_7 (3 : Int32).toNatClampNeg).toInt64) 2 v_7))))))))))
abbrev rX9_rule : Room := { frames := 4, cells := 0, slots := 0, locals := 125 }
set_option maxHeartbeats 40000000 in
set_option maxRecDepth 100000 in
theorem kX9_rule (l : Launch) (G : GT) (h0 qDR qLA qLE qCE qFI qCO qCR qSI qSR qMO qBO qPX qPY qPZ qSX : Nat) (sz : Nat) (dr : Int32) (bo : Int32) (po : Int32) (sx : Int32) (sy : Int32) (sw : Int32) (tx : Int32) (ty : Int32) (tz : Int32) (DR : Nat → Int32) (LA : Nat → Int32) (LE : Nat → Int32) (CE : Nat → Int64) (FI : Nat → Int32) (CO : Nat → Int32) (CR : Nat → Int32) (SI : Nat → Int32) (SR : Nat → Int32) (MO : Nat → Int32) (BO : Nat → Int32) (PX : Nat → Int32) (PY : Nat → Int32) (PZ : Nat → Int32) (SX : Nat → Int32) (p1 : Int32) (p2 : Int32) (res : Int64 × (Nat → Int32)) (hF : fX9_rule bo FI CO CR SI SR BO SX p1 p2 = some res) : Met l yX9_rule wsX9_rule rX9_rule (va_Pc [.ref h0, .int p1, .int p2] (pW G sz (wMod G h0 qDR qLA qLE qCE qFI qCO qCR qSI qSR qMO qBO qPX qPY qPZ qSX dr bo po sx sy sw tx ty tz DR LA LE CE FI CO CR SI SR MO BO PX PY PZ SX))) (va_Ql (fun (r : Int64) (u : (Nat → Int32)) => r = res.1 ∧ u = res.2) (fun u t => qW G (va_A (wMod G h0 qDR qLA qLE qCE qFI qCO qCR qSI qSR qMO qBO qPX qPY qPZ qSX dr bo po sx sy sw tx ty tz DR LA LE CE FI CO CR SI SR MO BO PX PY PZ SX) sz) (wMod G h0 qDR qLA qLE qCE qFI qCO qCR qSI qSR qMO qBO qPX qPY qPZ qSX dr bo po sx sy sw tx ty tz DR LA LE CE FI CO CR SI SR MO BO PX PY PZ u) t) (va_A (wMod G h0 qDR qLA qLE qCE qFI qCO qCR qSI qSR qMO qBO qPX qPY qPZ qSX dr bo po sx sy sw tx ty tz DR LA LE CE FI CO CR SI SR MO BO PX PY PZ SX) sz)) 0 0 (va_A (wMod G h0 qDR qLA qLE qCE qFI qCO qCR qSI qSR qMO qBO qPX qPY qPZ qSX dr bo po sx sy sw tx ty tz DR LA LE CE FI CO CR SI SR MO BO PX PY PZ SX) sz) := by
  refine Met.ofW (cc := cX9_rule) (maxL := 6) (ret := (some .long)) (by decide) rfl ?_
  intro p e s m args below meth c s₁ B hml hv
  obtain ⟨rfl, hsz, hP, hK, hD0⟩ := hv
  have hx := B.exec
  have hb := B.bytes
  have hr := B.returns
  have hts := atoms_spec (ws := wsX9_rule) B.pre
  have hown : s.vm.findClass RX9 = some m.cls := findClass_of_methodNamed B.named
  have hlocks := B.notSynchronized
  subst hsz
  have hD := hD0.self (sz := s.heap.size)
  generalize hAe : va_A (wMod G h0 qDR qLA qLE qCE qFI qCO qCR qSI qSR qMO qBO qPX qPY qPZ qSX dr bo po sx sy sw tx ty tz DR LA LE CE FI CO CR SI SR MO BO PX PY PZ SX) s.heap.size = A at hD ⊢
  have hA : ∀ q : Nat, s.heap.size ≤ q → A q := fun q h => by rw [← hAe]; exact Or.inr h
  have hS : va_S A s.heap s.heap [] := va_S.rf
  have hcn184 := hts (.constantLong RX9 184 (-1)) (by decide +kernel)
  have hcn182 := hts (.constantLong RX9 182 (-1000)) (by decide +kernel)
  have hcn168 := hts (.constantLong RX9 168 (1000)) (by decide +kernel)
  have hin9 : ∀ w ∈ u_ws RX9 TX9 24, w ∈ wsX9_rule := by decide +kernel
  have hfl53 := hts (.fieldLink RX9 53 "SwellBodiesModel" "six" "[I") (by decide +kernel)
  have hcn186 := hts (.constantLong RX9 186 (6)) (by decide +kernel)
  have hl := lv_entry ([.ref h0, .int p1, .int p2]) (n := 6) (Nat.le_of_ble_eq_true rfl)
  rw [lg_entry_eq]
  generalize (lg_sl ([.ref h0, .int p1, .int p2]) ++ List.replicate (6 - (lg_sl ([.ref h0, .int p1, .int p2])).length) Slot.unset).toArray = ls at hl ⊢
  have hl : lv_has ls 6 [(0, .ref h0), (1, .int p1), (2, .int p2)] := hl
  have hL42 : ∀ (k : Nat), ∀ (a2 : Int32) (a3 : Int64) (a5 : Int32) (mSX : Nat → Int32) (H : Heap) (locs : List Loc) (ls : Array Slot), LX9_rule_42 bo FI CO CR SI SR BO k a2 a3 a5 mSX = some res → va_P (gD G) vwCl (wMod G h0 qDR qLA qLE qCE qFI qCO qCR qSI qSR qMO qBO qPX qPY qPZ qSX dr bo po sx sy sw tx ty tz DR LA LE CE FI CO CR SI SR MO BO PX PY PZ mSX) H → va_D A (wMod G h0 qDR qLA qLE qCE qFI qCO qCR qSI qSR qMO qBO qPX qPY qPZ qSX dr bo po sx sy sw tx ty tz DR LA LE CE FI CO CR SI SR MO BO PX PY PZ mSX) → va_S A s.heap H locs → lv_has ls 6 [(0, .ref h0), (2, .int a2), (3, .long a3), (5, .int a5)] → W p l e (headSpec wsX9_rule rX9_rule).room s m ([.ref h0, .int p1, .int p2] : List Value).toArray below meth c H locs 0 0 (MQ below (va_Ql (fun (r : Int64) (u : (Nat → Int32)) => r = res.1 ∧ u = res.2) (fun u t => qW G A (wMod G h0 qDR qLA qLE qCE qFI qCO qCR qSI qSR qMO qBO qPX qPY qPZ qSX dr bo po sx sy sw tx ty tz DR LA LE CE FI CO CR SI SR MO BO PX PY PZ u) t) A) ([.ref h0, .int p1, .int p2] : List Value).toArray s 0 0 A) (F0 m 42 ls []) := by
    intro k
    induction k with
    | zero =>
      intro a2 a3 a5 mSX H locs ls hF hP hD hS hl
      rw [LX9_rule_42] at hF
      cases hF
    | succ k ih =>
      intro a2 a3 a5 mSX H locs ls hF hP hD hS hl
      rw [LX9_rule_42] at hF
      refine lv_iload hx hb dX9_rule_42 (lv_at hl 3 rfl) ?_
      refine lv_if_lt (tgt := 67) hx hb dX9_rule_44 (by decide) (fun c_9 => ?_) (fun c_9 => ?_)
      · replace hF := it_p c_9 hF
        refine lv_lload_n hx hb dX9_rule_67 rfl (lv_at hl 2 rfl) ?_
        refine lv_ldc2 (v := 6) hx hb hown hcn186 dX9_rule_68 ?_
        refine lv_ldiv hx hb dX9_rule_71 (by decide) ?_
        exact W.lret (v := a3 / 6) hx hb hr  (fun t ht hW => ⟨⟨a3 / 6, mSX, rfl, pr_e hF, qW_mk ht hP hK hW hD⟩, hS.F ht⟩) hS.2.2 dX9_rule_72
      · replace hF := it_n c_9 hF
        refine lv_lload_n hx hb dX9_rule_47 rfl (lv_at hl 2 rfl) ?_
        refine lv_iload_n hx hb dX9_rule_48 rfl (lv_at hl 1 rfl) ?_
        refine lv_i2l hx hb dX9_rule_49 rfl ?_
        refine lv_lmul hx hb dX9_rule_50 ?_
        refine lv_aload_n hx hb dX9_rule_51 rfl (lv_at hl 0 rfl) ?_
        refine va_get (ci := 9) (v := .ref qSX) (C := RX9) (T := TX9) (N := 24) hx hb hts hin9 hown hK hP 0 rfl rfl 20 (by decide) hfl53 (fun _ h9 => h9) rfl dX9_rule_52 ?_
        refine lv_iload hx hb dX9_rule_55 (lv_at hl 3 rfl) ?_
        obtain ⟨hi_10, hF⟩ := gd_in_s hF
        refine va_iald hx hb hK hP 15 0 rfl rfl hi_10 dX9_rule_57 ?_
        refine lv_i2l hx hb dX9_rule_58 rfl ?_
        refine lv_ladd hx hb dX9_rule_59 ?_
        refine lv_topl (fun c_11 ec_11 => ?_)
        replace hF := cut_at ec_11 hF
        refine lv_lstore_n (lv' := [(3, .long c_11), (0, .ref h0), (2, .int a2), (5, .int a5)]) hx hb dX9_rule_60 rfl hl (by decide) rfl (fun ls hl => ?_)
        refine lv_iinc (v := a5 + (-1)) (lv' := [(5, .int (a5 + (-1))), (3, .long c_11), (0, .ref h0), (2, .int a2)]) hx hb dX9_rule_61 hl (k := 3) rfl rfl (by decide) rfl (fun ls hl => ?_)
        refine lv_goto (tgt := 42) hx hb dX9_rule_64 (by decide) ?_
        exact ih a2 c_11 (a5 + (-1)) mSX _ _ _ hF hP hD hS (lv_sub hl [2, 3, 1, 0] rfl)
  unfold fX9_rule at hF
  refine lv_aload_n hx hb dX9_rule_0 rfl (lv_at hl 0 rfl) ?_
  refine lv_iload_n hx hb dX9_rule_1 rfl (lv_at hl 1 rfl) ?_
  obtain ⟨v_1, hv_1, hF⟩ := bd_s hF
  refine ro_ze (va_runV (As := [.int p1]) (rest := []) ⟨hx, hb, hml, hown, hts⟩ (kX9_is l G h0 qDR qLA qLE qCE qFI qCO qCR qSI qSR qMO qBO qPX qPY qPZ qSX dr bo po sx sy sw tx ty tz DR LA LE CE FI CO CR SI SR MO BO PX PY PZ SX p1 v_1 hv_1) (cwV 1 hts gX9_rule_X9_is rfl rfl rfl (by decide +kernel) ⟨Nat.le_of_ble_eq_true rfl, Nat.le_of_ble_eq_true rfl⟩) (pvR (q0 := 0) 9 hK (hP.sub (ws' := (wMod G h0 qDR qLA qLE qCE qFI qCO qCR qSI qSR qMO qBO qPX qPY qPZ qSX dr bo po sx sy sw tx ty tz DR LA LE CE FI CO CR SI SR MO BO PX PY PZ SX)) [0, 1, 2, 3, 4, 5, 6, 7, 8, 9, 10, 11, 12, 13, 14, 15] rfl) rfl rfl) rfl rfl hl.1 rfl (lv_room (Nat.le_of_ble_eq_true rfl)) dX9_rule_2 ⟨Nat.le_of_ble_eq_true rfl, Nat.le_of_ble_eq_true rfl⟩) (fun hb_2 => ?_)
  refine lv_if_eq (tgt := 22) hx hb dX9_rule_5 (by decide) (fun c_3 => ?_) (fun c_3 => ?_)
  · replace hF := it_p c_3 hF
    refine lv_ldc2 (v := (-1)) hx hb hown hcn184 dX9_rule_22 ?_
    exact W.lret (v := (-1)) hx hb hr  (fun t ht hW => ⟨⟨(-1), SX, rfl, pr_e hF, qW_mk ht hP hK hW hD⟩, hS.F ht⟩) hS.2.2 dX9_rule_25
  · replace hF := it_n c_3 hF
    refine lv_iload_n hx hb dX9_rule_8 rfl (lv_at hl 2 rfl) ?_
    refine lv_i2l hx hb dX9_rule_9 rfl ?_
    refine lv_ldc2 (v := (-1000)) hx hb hown hcn182 dX9_rule_10 ?_
    refine lv_ldc2 (v := 1000) hx hb hown hcn168 dX9_rule_13 ?_
    obtain ⟨v_4, hv_4, hF⟩ := bd_s hF
    refine ro_ze (va_runS (As := [.long p2.toInt64, .long (-1000), .long 1000]) (rest := []) ⟨hx, hb, hml, hown, hts⟩ (kX9_in l G p2.toInt64 (-1000) 1000 v_4 hv_4) (va_cwS 3 hts gX9_rule_X9_in rfl rfl rfl (by decide +kernel) ⟨Nat.le_of_ble_eq_true rfl, Nat.le_of_ble_eq_true rfl⟩) (psR hK (hP.sub (ws' := ([] : va_W)) [] rfl)) rfl rfl hl.1 rfl (lv_room (Nat.le_of_ble_eq_true rfl)) dX9_rule_16 ⟨Nat.le_of_ble_eq_true rfl, Nat.le_of_ble_eq_true rfl⟩) (fun hb_5 => ?_)
    refine lv_if_ne (tgt := 26) hx hb dX9_rule_19 (by decide) (fun c_6 => ?_) (fun c_6 => ?_)
    · replace hF := it_n c_6 hF
      refine lv_aload_n hx hb dX9_rule_26 rfl (lv_at hl 0 rfl) ?_
      refine lv_iload_n hx hb dX9_rule_27 rfl (lv_at hl 1 rfl) ?_
      obtain ⟨v_7, hv_7, hF⟩ := bd_s hF
      refine rw_ve (wf := (fun (u : (Nat → Int32)) => (wMod G h0 qDR qLA qLE qCE qFI qCO qCR qSI qSR qMO qBO qPX qPY qPZ qSX dr bo po sx sy sw tx ty tz DR LA LE CE FI CO CR SI SR MO BO PX PY PZ u))) (wr := []) (va_runV (As := [.int p1]) (rest := []) ⟨hx, hb, hml, hown, hts⟩ (kX9_layRule l G h0 qDR qLA qLE qCE qFI qCO qCR qSI qSR qMO qBO qPX qPY qPZ qSX s.heap.size dr bo po sx sy sw tx ty tz DR LA LE CE FI CO CR SI SR MO BO PX PY PZ SX p1 v_7 hv_7) (cwV 1 hts gX9_rule_X9_layRule rfl rfl rfl (by decide +kernel) ⟨Nat.le_of_ble_eq_true rfl, Nat.le_of_ble_eq_true rfl⟩) (pvW (q0 := 0) 9 hK (hP.sub (ws' := (wMod G h0 qDR qLA qLE qCE qFI qCO qCR qSI qSR qMO qBO qPX qPY qPZ qSX dr bo po sx sy sw tx ty tz DR LA LE CE FI CO CR SI SR MO BO PX PY PZ SX)) [0, 1, 2, 3, 4, 5, 6, 7, 8, 9, 10, 11, 12, 13, 14, 15] rfl) (hD.sub (ws' := (wMod G h0 qDR qLA qLE qCE qFI qCO qCR qSI qSR qMO qBO qPX qPY qPZ qSX dr bo po sx sy sw tx ty tz DR LA LE CE FI CO CR SI SR MO BO PX PY PZ SX)) [0, 1, 2, 3, 4, 5, 6, 7, 8, 9, 10, 11, 12, 13, 14, 15] (by decide) rfl) rfl rfl) rfl rfl hl.1 rfl (lv_room (Nat.le_of_ble_eq_true rfl)) dX9_rule_28 ⟨Nat.le_of_ble_eq_true rfl, Nat.le_of_ble_eq_true rfl⟩) hP hD hS hA [0, 1, 2, 3, 4, 5, 6, 7, 8, 9, 10, 11, 12, 13, 14, 15] [] rfl rfl (by decide) (by decide) (fun H locs  hP hD hS => ?_)
      have hP : va_P (gD G) vwCl (wMod G h0 qDR qLA qLE qCE qFI qCO qCR qSI qSR qMO qBO qPX qPY qPZ qSX dr bo po sx sy sw tx ty tz DR LA LE CE FI CO CR SI SR MO BO PX PY PZ v_7) H := hP.sub [0, 1, 2, 3, 4, 5, 6, 7, 8, 9, 10, 11, 12, 13, 14, 15] rfl
      have hD : va_D A (wMod G h0 qDR qLA qLE qCE qFI qCO qCR qSI qSR qMO qBO qPX qPY qPZ qSX dr bo po sx sy sw tx ty tz DR LA LE CE FI CO CR SI SR MO BO PX PY PZ v_7) := hD.sub [0, 1, 2, 3, 4, 5, 6, 7, 8, 9, 10, 11, 12, 13, 14, 15] (by decide) rfl
      refine lv_aload_n hx hb dX9_rule_31 rfl (lv_at hl 0 rfl) ?_
      refine va_get (ci := 9) (v := .ref qSX) (C := RX9) (T := TX9) (N := 24) hx hb hts hin9 hown hK hP 0 rfl rfl 20 (by decide) hfl53 (fun _ h9 => h9) rfl dX9_rule_32 ?_
      refine lv_iconst (v := 3) hx hb dX9_rule_35 (by decide) ?_
      obtain ⟨hi_8, hF⟩ := gd_in_s hF
      refine va_iald hx hb hK hP 15 0 rfl rfl hi_8 dX9_rule_36 ?_
      refine lv_i2l hx hb dX9_rule_37 rfl ?_
      refine lv_lstore_n (lv' := [(3, .long ((v_7 (3 : Int32).toNatClampNeg).toInt64)), (0, .ref h0), (1, .int p1), (2, .int p2)]) hx hb dX9_rule_38 rfl hl (by decide) rfl (fun ls hl => ?_)
      refine lv_iconst (v := 2) hx hb dX9_rule_39 (by decide) ?_
      refine lv_istore (lv' := [(5, .int 2), (3, .long ((v_7 (3 : Int32).toNatClampNeg).toInt64)), (0, .ref h0), (1, .int p1), (2, .int p2)]) hx hb dX9_rule_40 hl (by decide) rfl (fun ls hl => ?_)
      exact hL42 FU p2 ((v_7 (3 : Int32).toNatClampNeg).toInt64) 2 v_7 _ _ _ hF hP hD hS (lv_sub hl [2, 4, 1, 0] rfl)
    · replace hF := it_p c_6 hF
      refine lv_ldc2 (v := (-1)) hx hb hown hcn184 dX9_rule_22 ?_
      exact W.lret (v := (-1)) hx hb hr  (fun t ht hW => ⟨⟨(-1), SX, rfl, pr_e hF, qW_mk ht hP hK hW hD⟩, hS.F ht⟩) hS.2.2 dX9_rule_25
def LX9_chosen_4   : Nat → Int32 → Int32 → Int32 → Int32 → Option (Int32)
  | 0, _, _, _, _ => none
  | k + 1, a0, a1, a2, a3 =>
  (if a1 < a3 then (some a2) else (gd_nz a3 (LX9_chosen_4 k a0 a1 ((a2 * ((a0 - a3) + 1)) / a3) (a3 + 1))))
def fX9_chosen (p1 : Int32) (p2 : Int32) : Option (Int32) :=
  (LX9_chosen_4 FU p1 p2 1 1)
abbrev rX9_chosen : Room := { frames := 0, cells := 0, slots := 0, locals := 0 }
set_option maxHeartbeats 40000000 in
set_option maxRecDepth 100000 in
theorem kX9_chosen (l : Launch) (G : GT) (p1 : Int32) (p2 : Int32) (res : Int32) (hF : fX9_chosen p1 p2 = some res) : Met l yX9_chosen wsX9_chosen rX9_chosen (va_Pc [.int p1, .int p2] (pR G ([] : va_W))) (vp_Si (fun r => r = res)) 0 0 (fun _ => False) := by
  refine Met.ofW (cc := cX9_chosen) (maxL := 4) (ret := (some .int)) (by decide) rfl ?_
  intro p e s m args below meth c s₁ B hml hv
  obtain ⟨rfl, hP, hK⟩ := hv
  have hx := B.exec
  have hb := B.bytes
  have hr := B.returns
  have hts := atoms_spec (ws := wsX9_chosen) B.pre
  have hown : s.vm.findClass RX9 = some m.cls := findClass_of_methodNamed B.named
  have hlocks := B.notSynchronized
  have hl := lv_entry ([.int p1, .int p2]) (n := 4) (Nat.le_of_ble_eq_true rfl)
  rw [lg_entry_eq]
  generalize (lg_sl ([.int p1, .int p2]) ++ List.replicate (4 - (lg_sl ([.int p1, .int p2])).length) Slot.unset).toArray = ls at hl ⊢
  have hl : lv_has ls 4 [(0, .int p1), (1, .int p2)] := hl
  have hL4 : ∀ (k : Nat), ∀ (a0 : Int32) (a1 : Int32) (a2 : Int32) (a3 : Int32) (ls : Array Slot), LX9_chosen_4 k a0 a1 a2 a3 = some res → lv_has ls 4 [(0, .int a0), (1, .int a1), (2, .int a2), (3, .int a3)] → W p l e (headSpec wsX9_chosen rX9_chosen).room s m ([.int p1, .int p2] : List Value).toArray below meth c s.heap [] 0 0 (MQ below (vp_Si (fun r => r = res)) ([.int p1, .int p2] : List Value).toArray s 0 0 (fun _ => False)) (F0 m 4 ls []) := by
    intro k
    induction k with
    | zero =>
      intro a0 a1 a2 a3 ls hF hl
      rw [LX9_chosen_4] at hF
      cases hF
    | succ k ih =>
      intro a0 a1 a2 a3 ls hF hl
      rw [LX9_chosen_4] at hF
      refine lv_iload_n hx hb dX9_chosen_4 rfl (lv_at hl 3 rfl) ?_
      refine lv_iload_n hx hb dX9_chosen_5 rfl (lv_at hl 1 rfl) ?_
      refine lv_icmp_gt (tgt := 25) hx hb dX9_chosen_6 (by decide) (fun c_1 => ?_) (fun c_1 => ?_)
      · replace hF := it_p c_1 hF
        refine lv_iload_n hx hb dX9_chosen_25 rfl (lv_at hl 2 rfl) ?_
        exact W.iret (v := a2) hx hb hr  (fun t ht hW => ⟨a2, rfl, (so_e hF), ht⟩) (fun q h => absurd h List.not_mem_nil) dX9_chosen_26
      · replace hF := it_n c_1 hF
        refine lv_iload_n hx hb dX9_chosen_9 rfl (lv_at hl 2 rfl) ?_
        refine lv_iload_n hx hb dX9_chosen_10 rfl (lv_at hl 0 rfl) ?_
        refine lv_iload_n hx hb dX9_chosen_11 rfl (lv_at hl 3 rfl) ?_
        refine lv_isub hx hb dX9_chosen_12 ?_
        refine lv_iconst (v := 1) hx hb dX9_chosen_13 (by decide) ?_
        refine lv_iadd hx hb dX9_chosen_14 ?_
        refine lv_imul hx hb dX9_chosen_15 ?_
        refine lv_iload_n hx hb dX9_chosen_16 rfl (lv_at hl 3 rfl) ?_
        obtain ⟨hz_2, hF⟩ := gd_nz_s hF
        refine lv_idiv hx hb dX9_chosen_17 hz_2 ?_
        refine lv_istore_n (lv' := [(2, .int ((a2 * ((a0 - a3) + 1)) / a3)), (0, .int a0), (1, .int a1), (3, .int a3)]) hx hb dX9_chosen_18 rfl hl (by decide) rfl (fun ls hl => ?_)
        refine lv_iinc (v := a3 + 1) (lv' := [(3, .int (a3 + 1)), (2, .int ((a2 * ((a0 - a3) + 1)) / a3)), (0, .int a0), (1, .int a1)]) hx hb dX9_chosen_19 hl (k := 3) rfl rfl (by decide) rfl (fun ls hl => ?_)
        refine lv_goto (tgt := 4) hx hb dX9_chosen_22 (by decide) ?_
        exact ih a0 a1 ((a2 * ((a0 - a3) + 1)) / a3) (a3 + 1) _ hF (lv_sub hl [2, 3, 1, 0] rfl)
  unfold fX9_chosen at hF
  refine lv_iconst (v := 1) hx hb dX9_chosen_0 (by decide) ?_
  refine lv_istore_n (lv' := [(2, .int 1), (0, .int p1), (1, .int p2)]) hx hb dX9_chosen_1 rfl hl (by decide) rfl (fun ls hl => ?_)
  refine lv_iconst (v := 1) hx hb dX9_chosen_2 (by decide) ?_
  refine lv_istore_n (lv' := [(3, .int 1), (2, .int 1), (0, .int p1), (1, .int p2)]) hx hb dX9_chosen_3 rfl hl (by decide) rfl (fun ls hl => ?_)
  exact hL4 FU p1 p2 1 1 _ hF (lv_sub hl [2, 3, 1, 0] rfl)
def JX9_stairs_50 (bo : Int32) (FI : Nat → Int32) (CO : Nat → Int32) (CR : Nat → Int32) (SI : Nat → Int32) (SR : Nat → Int32) (BO : Nat → Int32) (k31 : Int32 → Int32 → Int32 → Int32 → Option (Int32)) (a1 : Int32) (a2 : Int32) (a4 : Int32) (t0 : Int32) (t1 : Int32) : Option (Int32) :=
  (gd_in a1 8 (bd (fX9_chosen ((FI a1.toNatClampNeg) + 1) a4) (fun v_11 => (bd (fX9_countOf FI CO CR SI SR BO a1 (a2 - a4)) (fun v_12 => (k31 a1 a2 (t1 + ((t0 * v_11) * v_12)) (a4 + 1)))))))
def LX9_stairs_31 (bo : Int32) (FI : Nat → Int32) (CO : Nat → Int32) (CR : Nat → Int32) (SI : Nat → Int32) (SR : Nat → Int32) (BO : Nat → Int32)  : Nat → Int32 → Int32 → Int32 → Int32 → Option (Int32)
  | 0, _, _, _, _ => none
  | k + 1, a1, a2, a3, a4 =>
  (if a2 < a4 then (some a3) else (if a4 - a4 / 2 * 2 = 0 then (JX9_stairs_50 bo FI CO CR SI SR BO (LX9_stairs_31 bo FI CO CR SI SR BO k) a1 a2 a4 1 a3) else (JX9_stairs_50 bo FI CO CR SI SR BO (LX9_stairs_31 bo FI CO CR SI SR BO k) a1 a2 a4 (-1) a3)))
def fX9_stairs (bo : Int32) (FI : Nat → Int32) (CO : Nat → Int32) (CR : Nat → Int32) (SI : Nat → Int32) (SR : Nat → Int32) (BO : Nat → Int32) (p1 : Int32) (p2 : Int32) : Option (Int32) :=
  (bd (fX9_is bo p1) (fun v_1 => (if v_1 = 0 then (some (-1)) else (gd_in p1 8 (bd (fX9_in p2.toInt64 0 ((FI p1.toNatClampNeg).toInt64)) (fun v_5 => (if v_5 = 0 then (some (-1)) else (LX9_stairs_31 bo FI CO CR SI SR BO FU p1 p2 0 0))))))))
abbrev rX9_stairs : Room := { frames := 3, cells := 0, slots := 0, locals := 101 }
set_option maxHeartbeats 40000000 in
set_option maxRecDepth 100000 in
theorem kX9_stairs (l : Launch) (G : GT) (h0 qDR qLA qLE qCE qFI qCO qCR qSI qSR qMO qBO qPX qPY qPZ qSX : Nat) (dr : Int32) (bo : Int32) (po : Int32) (sx : Int32) (sy : Int32) (sw : Int32) (tx : Int32) (ty : Int32) (tz : Int32) (DR : Nat → Int32) (LA : Nat → Int32) (LE : Nat → Int32) (CE : Nat → Int64) (FI : Nat → Int32) (CO : Nat → Int32) (CR : Nat → Int32) (SI : Nat → Int32) (SR : Nat → Int32) (MO : Nat → Int32) (BO : Nat → Int32) (PX : Nat → Int32) (PY : Nat → Int32) (PZ : Nat → Int32) (SX : Nat → Int32) (p1 : Int32) (p2 : Int32) (res : Int32) (hF : fX9_stairs bo FI CO CR SI SR BO p1 p2 = some res) : Met l yX9_stairs wsX9_stairs rX9_stairs (va_Pc [.ref h0, .int p1, .int p2] (pR G (wMod G h0 qDR qLA qLE qCE qFI qCO qCR qSI qSR qMO qBO qPX qPY qPZ qSX dr bo po sx sy sw tx ty tz DR LA LE CE FI CO CR SI SR MO BO PX PY PZ SX))) (vp_Si (fun r => r = res)) 0 0 (fun _ => False) := by
  refine Met.ofW (cc := cX9_stairs) (maxL := 5) (ret := (some .int)) (by decide) rfl ?_
  intro p e s m args below meth c s₁ B hml hv
  obtain ⟨rfl, hP, hK⟩ := hv
  have hx := B.exec
  have hb := B.bytes
  have hr := B.returns
  have hts := atoms_spec (ws := wsX9_stairs) B.pre
  have hown : s.vm.findClass RX9 = some m.cls := findClass_of_methodNamed B.named
  have hlocks := B.notSynchronized
  have hin9 : ∀ w ∈ u_ws RX9 TX9 24, w ∈ wsX9_stairs := by decide +kernel
  have hfl23 := hts (.fieldLink RX9 23 "SwellBodiesModel" "fills" "[I") (by decide +kernel)
  have hl := lv_entry ([.ref h0, .int p1, .int p2]) (n := 5) (Nat.le_of_ble_eq_true rfl)
  rw [lg_entry_eq]
  generalize (lg_sl ([.ref h0, .int p1, .int p2]) ++ List.replicate (5 - (lg_sl ([.ref h0, .int p1, .int p2])).length) Slot.unset).toArray = ls at hl ⊢
  have hl : lv_has ls 5 [(0, .ref h0), (1, .int p1), (2, .int p2)] := hl
  have hJ50 : ∀ (k31 : Int32 → Int32 → Int32 → Int32 → Option (Int32)), (∀ (a1 : Int32) (a2 : Int32) (a3 : Int32) (a4 : Int32) (ls : Array Slot), k31 a1 a2 a3 a4 = some res → lv_has ls 5 [(0, .ref h0), (1, .int a1), (2, .int a2), (3, .int a3), (4, .int a4)] → W p l e (headSpec wsX9_stairs rX9_stairs).room s m ([.ref h0, .int p1, .int p2] : List Value).toArray below meth c s.heap [] 0 0 (MQ below (vp_Si (fun r => r = res)) ([.ref h0, .int p1, .int p2] : List Value).toArray s 0 0 (fun _ => False)) (F0 m 31 ls [])) → ∀ (a1 : Int32) (a2 : Int32) (a4 : Int32) (t0 : Int32) (t1 : Int32) (ls : Array Slot), JX9_stairs_50 bo FI CO CR SI SR BO k31 a1 a2 a4 t0 t1 = some res → lv_has ls 5 [(0, .ref h0), (1, .int a1), (2, .int a2), (4, .int a4)] → W p l e (headSpec wsX9_stairs rX9_stairs).room s m ([.ref h0, .int p1, .int p2] : List Value).toArray below meth c s.heap [] 0 0 (MQ below (vp_Si (fun r => r = res)) ([.ref h0, .int p1, .int p2] : List Value).toArray s 0 0 (fun _ => False)) (F0 m 50 ls [.int t0, .int t1]) := by
    intro k31 hk31
    intro a1 a2 a4 t0 t1 ls hF hl
    unfold JX9_stairs_50 at hF
    refine lv_aload_n hx hb dX9_stairs_50 rfl (lv_at hl 0 rfl) ?_
    refine va_get (ci := 9) (v := .ref qFI) (C := RX9) (T := TX9) (N := 24) hx hb hts hin9 hown hK hP 0 rfl rfl 6 (by decide) hfl23 (fun _ h9 => h9) rfl dX9_stairs_51 ?_
    refine lv_iload_n hx hb dX9_stairs_54 rfl (lv_at hl 1 rfl) ?_
    obtain ⟨hi_10, hF⟩ := gd_in_s hF
    refine va_iald hx hb hK hP 5 0 rfl rfl hi_10 dX9_stairs_55 ?_
    refine lv_iconst (v := 1) hx hb dX9_stairs_56 (by decide) ?_
    refine lv_iadd hx hb dX9_stairs_57 ?_
    refine lv_iload hx hb dX9_stairs_58 (lv_at hl 3 rfl) ?_
    obtain ⟨v_11, hv_11, hF⟩ := bd_s hF
    refine ro_ie (va_runS (As := [.int ((FI a1.toNatClampNeg) + 1), .int a4]) (rest := [.int t0, .int t1]) ⟨hx, hb, hml, hown, hts⟩ (kX9_chosen l G ((FI a1.toNatClampNeg) + 1) a4 v_11 hv_11) (va_cwS 2 hts gX9_stairs_X9_chosen rfl rfl rfl (by decide +kernel) ⟨Nat.le_of_ble_eq_true rfl, Nat.le_of_ble_eq_true rfl⟩) (psR hK (hP.sub (ws' := ([] : va_W)) [] rfl)) rfl rfl hl.1 rfl (lv_room (Nat.le_of_ble_eq_true rfl)) dX9_stairs_60 ⟨Nat.le_of_ble_eq_true rfl, Nat.le_of_ble_eq_true rfl⟩) ?_
    refine lv_imul hx hb dX9_stairs_63 ?_
    refine lv_aload_n hx hb dX9_stairs_64 rfl (lv_at hl 0 rfl) ?_
    refine lv_iload_n hx hb dX9_stairs_65 rfl (lv_at hl 1 rfl) ?_
    refine lv_iload_n hx hb dX9_stairs_66 rfl (lv_at hl 2 rfl) ?_
    refine lv_iload hx hb dX9_stairs_67 (lv_at hl 3 rfl) ?_
    refine lv_isub hx hb dX9_stairs_69 ?_
    obtain ⟨v_12, hv_12, hF⟩ := bd_s hF
    refine ro_ie (va_runV (As := [.int a1, .int (a2 - a4)]) (rest := [.int (t0 * v_11), .int t1]) ⟨hx, hb, hml, hown, hts⟩ (kX9_countOf l G h0 qDR qLA qLE qCE qFI qCO qCR qSI qSR qMO qBO qPX qPY qPZ qSX dr bo po sx sy sw tx ty tz DR LA LE CE FI CO CR SI SR MO BO PX PY PZ SX a1 (a2 - a4) v_12 hv_12) (cwV 2 hts gX9_stairs_X9_countOf rfl rfl rfl (by decide +kernel) ⟨Nat.le_of_ble_eq_true rfl, Nat.le_of_ble_eq_true rfl⟩) (pvR (q0 := 0) 9 hK (hP.sub (ws' := (wMod G h0 qDR qLA qLE qCE qFI qCO qCR qSI qSR qMO qBO qPX qPY qPZ qSX dr bo po sx sy sw tx ty tz DR LA LE CE FI CO CR SI SR MO BO PX PY PZ SX)) [0, 1, 2, 3, 4, 5, 6, 7, 8, 9, 10, 11, 12, 13, 14, 15] rfl) rfl rfl) rfl rfl hl.1 rfl (lv_room (Nat.le_of_ble_eq_true rfl)) dX9_stairs_70 ⟨Nat.le_of_ble_eq_true rfl, Nat.le_of_ble_eq_true rfl⟩) ?_
    refine lv_imul hx hb dX9_stairs_73 ?_
    refine lv_iadd hx hb dX9_stairs_74 ?_
    refine lv_istore_n (lv' := [(3, .int (t1 + ((t0 * v_11) * v_12))), (0, .ref h0), (1, .int a1), (2, .int a2), (4, .int a4)]) hx hb dX9_stairs_75 rfl hl (by decide) rfl (fun ls hl => ?_)
    refine lv_iinc (v := a4 + 1) (lv' := [(4, .int (a4 + 1)), (3, .int (t1 + ((t0 * v_11) * v_12))), (0, .ref h0), (1, .int a1), (2, .int a2)]) hx hb dX9_stairs_76 hl (k := 4) rfl rfl (by decide) rfl (fun ls hl => ?_)
    refine lv_goto (tgt := 31) hx hb dX9_stairs_79 (by decide) ?_
    exact hk31 a1 a2 (t1 + ((t0 * v_11) * v_12)) (a4 + 1) _ hF (lv_sub hl [2, 3, 4, 1, 0] rfl)
  have hL31 : ∀ (k : Nat), ∀ (a1 : Int32) (a2 : Int32) (a3 : Int32) (a4 : Int32) (ls : Array Slot), LX9_stairs_31 bo FI CO CR SI SR BO k a1 a2 a3 a4 = some res → lv_has ls 5 [(0, .ref h0), (1, .int a1), (2, .int a2), (3, .int a3), (4, .int a4)] → W p l e (headSpec wsX9_stairs rX9_stairs).room s m ([.ref h0, .int p1, .int p2] : List Value).toArray below meth c s.heap [] 0 0 (MQ below (vp_Si (fun r => r = res)) ([.ref h0, .int p1, .int p2] : List Value).toArray s 0 0 (fun _ => False)) (F0 m 31 ls []) := by
    intro k
    induction k with
    | zero =>
      intro a1 a2 a3 a4 ls hF hl
      rw [LX9_stairs_31] at hF
      cases hF
    | succ k ih =>
      intro a1 a2 a3 a4 ls hF hl
      rw [LX9_stairs_31] at hF
      refine lv_iload hx hb dX9_stairs_31 (lv_at hl 4 rfl) ?_
      refine lv_iload_n hx hb dX9_stairs_33 rfl (lv_at hl 2 rfl) ?_
      refine lv_icmp_gt (tgt := 82) hx hb dX9_stairs_34 (by decide) (fun c_8 => ?_) (fun c_8 => ?_)
      · replace hF := it_p c_8 hF
        refine lv_iload_n hx hb dX9_stairs_82 rfl (lv_at hl 3 rfl) ?_
        exact W.iret (v := a3) hx hb hr  (fun t ht hW => ⟨a3, rfl, (so_e hF), ht⟩) (fun q h => absurd h List.not_mem_nil) dX9_stairs_83
      · replace hF := it_n c_8 hF
        refine lv_iload_n hx hb dX9_stairs_37 rfl (lv_at hl 3 rfl) ?_
        refine lv_iload hx hb dX9_stairs_38 (lv_at hl 4 rfl) ?_
        refine lv_iconst (v := 2) hx hb dX9_stairs_40 (by decide) ?_
        refine lv_irem hx hb dX9_stairs_41 (by decide) ?_
        refine lv_if_ne (tgt := 49) hx hb dX9_stairs_42 (by decide) (fun c_9 => ?_) (fun c_9 => ?_)
        · replace hF := it_n c_9 hF
          refine lv_iconst (v := (-1)) hx hb dX9_stairs_49 (by decide) ?_
          exact hJ50 _ ih a1 a2 a4 (-1) a3 _ hF (lv_sub hl [0, 1, 2, 4] rfl)
        · replace hF := it_p c_9 hF
          refine lv_iconst (v := 1) hx hb dX9_stairs_45 (by decide) ?_
          refine lv_goto (tgt := 50) hx hb dX9_stairs_46 (by decide) ?_
          exact hJ50 _ ih a1 a2 a4 1 a3 _ hF (lv_sub hl [0, 1, 2, 4] rfl)
  unfold fX9_stairs at hF
  refine lv_aload_n hx hb dX9_stairs_0 rfl (lv_at hl 0 rfl) ?_
  refine lv_iload_n hx hb dX9_stairs_1 rfl (lv_at hl 1 rfl) ?_
  obtain ⟨v_1, hv_1, hF⟩ := bd_s hF
  refine ro_ze (va_runV (As := [.int p1]) (rest := []) ⟨hx, hb, hml, hown, hts⟩ (kX9_is l G h0 qDR qLA qLE qCE qFI qCO qCR qSI qSR qMO qBO qPX qPY qPZ qSX dr bo po sx sy sw tx ty tz DR LA LE CE FI CO CR SI SR MO BO PX PY PZ SX p1 v_1 hv_1) (cwV 1 hts gX9_stairs_X9_is rfl rfl rfl (by decide +kernel) ⟨Nat.le_of_ble_eq_true rfl, Nat.le_of_ble_eq_true rfl⟩) (pvR (q0 := 0) 9 hK (hP.sub (ws' := (wMod G h0 qDR qLA qLE qCE qFI qCO qCR qSI qSR qMO qBO qPX qPY qPZ qSX dr bo po sx sy sw tx ty tz DR LA LE CE FI CO CR SI SR MO BO PX PY PZ SX)) [0, 1, 2, 3, 4, 5, 6, 7, 8, 9, 10, 11, 12, 13, 14, 15] rfl) rfl rfl) rfl rfl hl.1 rfl (lv_room (Nat.le_of_ble_eq_true rfl)) dX9_stairs_2 ⟨Nat.le_of_ble_eq_true rfl, Nat.le_of_ble_eq_true rfl⟩) (fun hb_2 => ?_)
  refine lv_if_eq (tgt := 24) hx hb dX9_stairs_5 (by decide) (fun c_3 => ?_) (fun c_3 => ?_)
  · replace hF := it_p c_3 hF
    refine lv_iconst (v := (-1)) hx hb dX9_stairs_24 (by decide) ?_
    exact W.iret (v := (-1)) hx hb hr  (fun t ht hW => ⟨(-1), rfl, (so_e hF), ht⟩) (fun q h => absurd h List.not_mem_nil) dX9_stairs_25
  · replace hF := it_n c_3 hF
    refine lv_iload_n hx hb dX9_stairs_8 rfl (lv_at hl 2 rfl) ?_
    refine lv_i2l hx hb dX9_stairs_9 rfl ?_
    refine lv_lconst (v := 0) hx hb dX9_stairs_10 (by decide) ?_
    refine lv_aload_n hx hb dX9_stairs_11 rfl (lv_at hl 0 rfl) ?_
    refine va_get (ci := 9) (v := .ref qFI) (C := RX9) (T := TX9) (N := 24) hx hb hts hin9 hown hK hP 0 rfl rfl 6 (by decide) hfl23 (fun _ h9 => h9) rfl dX9_stairs_12 ?_
    refine lv_iload_n hx hb dX9_stairs_15 rfl (lv_at hl 1 rfl) ?_
    obtain ⟨hi_4, hF⟩ := gd_in_s hF
    refine va_iald hx hb hK hP 5 0 rfl rfl hi_4 dX9_stairs_16 ?_
    refine lv_i2l hx hb dX9_stairs_17 rfl ?_
    obtain ⟨v_5, hv_5, hF⟩ := bd_s hF
    refine ro_ze (va_runS (As := [.long p2.toInt64, .long 0, .long ((FI p1.toNatClampNeg).toInt64)]) (rest := []) ⟨hx, hb, hml, hown, hts⟩ (kX9_in l G p2.toInt64 0 ((FI p1.toNatClampNeg).toInt64) v_5 hv_5) (va_cwS 3 hts gX9_stairs_X9_in rfl rfl rfl (by decide +kernel) ⟨Nat.le_of_ble_eq_true rfl, Nat.le_of_ble_eq_true rfl⟩) (psR hK (hP.sub (ws' := ([] : va_W)) [] rfl)) rfl rfl hl.1 rfl (lv_room (Nat.le_of_ble_eq_true rfl)) dX9_stairs_18 ⟨Nat.le_of_ble_eq_true rfl, Nat.le_of_ble_eq_true rfl⟩) (fun hb_6 => ?_)
    refine lv_if_ne (tgt := 26) hx hb dX9_stairs_21 (by decide) (fun c_7 => ?_) (fun c_7 => ?_)
    · replace hF := it_n c_7 hF
      refine lv_iconst (v := 0) hx hb dX9_stairs_26 (by decide) ?_
      refine lv_istore_n (lv' := [(3, .int 0), (0, .ref h0), (1, .int p1), (2, .int p2)]) hx hb dX9_stairs_27 rfl hl (by decide) rfl (fun ls hl => ?_)
      refine lv_iconst (v := 0) hx hb dX9_stairs_28 (by decide) ?_
      refine lv_istore (lv' := [(4, .int 0), (3, .int 0), (0, .ref h0), (1, .int p1), (2, .int p2)]) hx hb dX9_stairs_29 hl (by decide) rfl (fun ls hl => ?_)
      exact hL31 FU p1 p2 0 0 _ hF (lv_sub hl [2, 3, 4, 1, 0] rfl)
    · replace hF := it_p c_7 hF
      refine lv_iconst (v := (-1)) hx hb dX9_stairs_24 (by decide) ?_
      exact W.iret (v := (-1)) hx hb hr  (fun t ht hW => ⟨(-1), rfl, (so_e hF), ht⟩) (fun q h => absurd h List.not_mem_nil) dX9_stairs_25
def JX9_gone_170 (FI : Nat → Int32) (CO : Nat → Int32) (CR : Nat → Int32) (SI : Nat → Int32) (SR : Nat → Int32) (BO : Nat → Int32) (k85 : Int32 → Int32 → Int32 → Int32 → Int32 → Int32 → Int32 → Int32 → Int32 → Int32 → Int32 → Int32 → Int32 → Int32 → Int32 → Int32 → Int32 → Int32 → Int32 → Option (Int32 × Int32 × Int32 × Int32)) (k176 : Int32 → Int32 → Int32 → Int32 → Int32 → Int32 → Int32 → Int32 → Int32 → Int32 → Int32 → Int32 → Int32 → Int32 → Int32 → Int32 → Int32 → Int32 → Option (Int32 × Int32 × Int32 × Int32)) (a1 : Int32) (a2 : Int32) (a3 : Int32) (a4 : Int32) (a5 : Int32) (a6 : Int32) (a7 : Int32) (a8 : Int32) (a9 : Int32) (a10 : Int32) (a11 : Int32) (a12 : Int32) (a13 : Int32) (a14 : Int32) (a15 : Int32) (a16 : Int32) (mtx : Int32) (mty : Int32) (mtz : Int32) : Option (Int32 × Int32 × Int32 × Int32) :=
  (k85 a1 a2 a3 a4 a5 a6 a7 a8 a9 a10 a11 a12 a13 a14 a15 (a16 + 1) mtx mty mtz)
def JX9_gone_167 (FI : Nat → Int32) (CO : Nat → Int32) (CR : Nat → Int32) (SI : Nat → Int32) (SR : Nat → Int32) (BO : Nat → Int32) (k85 : Int32 → Int32 → Int32 → Int32 → Int32 → Int32 → Int32 → Int32 → Int32 → Int32 → Int32 → Int32 → Int32 → Int32 → Int32 → Int32 → Int32 → Int32 → Int32 → Option (Int32 × Int32 × Int32 × Int32)) (k176 : Int32 → Int32 → Int32 → Int32 → Int32 → Int32 → Int32 → Int32 → Int32 → Int32 → Int32 → Int32 → Int32 → Int32 → Int32 → Int32 → Int32 → Int32 → Option (Int32 × Int32 × Int32 × Int32)) (a1 : Int32) (a2 : Int32) (a3 : Int32) (a4 : Int32) (a5 : Int32) (a6 : Int32) (a7 : Int32) (a8 : Int32) (a9 : Int32) (a10 : Int32) (a11 : Int32) (a12 : Int32) (a13 : Int32) (a14 : Int32) (a15 : Int32) (a16 : Int32) (mtx : Int32) (mty : Int32) (mtz : Int32) : Option (Int32 × Int32 × Int32 × Int32) :=
  (JX9_gone_170 FI CO CR SI SR BO k85 k176 a1 a2 a3 a4 a5 a6 a7 (a8 + 1) a9 a10 a11 a12 a13 a14 a15 a16 mtx mty mtz)
def JX9_gone_146 (FI : Nat → Int32) (CO : Nat → Int32) (CR : Nat → Int32) (SI : Nat → Int32) (SR : Nat → Int32) (BO : Nat → Int32)  (a8 : Int32) (a14 : Int32) (a15 : Int32) (a16 : Int32) (mtx : Int32) (mty : Int32) (mtz : Int32) : Option (Int32 × Int32 × Int32 × Int32) :=
  (some (a8, a14, a15, a16))
def LX9_gone_85 (FI : Nat → Int32) (CO : Nat → Int32) (CR : Nat → Int32) (SI : Nat → Int32) (SR : Nat → Int32) (BO : Nat → Int32) (k176 : Int32 → Int32 → Int32 → Int32 → Int32 → Int32 → Int32 → Int32 → Int32 → Int32 → Int32 → Int32 → Int32 → Int32 → Int32 → Int32 → Int32 → Int32 → Option (Int32 × Int32 × Int32 × Int32)) : Nat → Int32 → Int32 → Int32 → Int32 → Int32 → Int32 → Int32 → Int32 → Int32 → Int32 → Int32 → Int32 → Int32 → Int32 → Int32 → Int32 → Int32 → Int32 → Int32 → Option (Int32 × Int32 × Int32 × Int32)
  | 0, _, _, _, _, _, _, _, _, _, _, _, _, _, _, _, _, _, _, _ => none
  | k + 1, a1, a2, a3, a4, a5, a6, a7, a8, a9, a10, a11, a12, a13, a14, a15, a16, mtx, mty, mtz =>
  (if a13 < a16 then (k176 a1 a2 a3 a4 a5 a6 a7 a8 a9 a10 a11 a12 a13 a14 a15 mtx mty mtz) else (bd (fX9_where FI CR SI SR BO a1 a14.toInt64 a15.toInt64 a16.toInt64 a2.toInt64) (fun v_10 => (if v_10 ≤ 0 then (JX9_gone_170 FI CO CR SI SR BO (LX9_gone_85 FI CO CR SI SR BO k176 k) k176 a1 a2 a3 a4 a5 a6 a7 a8 a9 a10 a11 a12 a13 a14 a15 a16 mtx mty mtz) else (if a4 = 0 then (if a8 = a3 then (JX9_gone_146 FI CO CR SI SR BO a8 a14 a15 a16 mtx mty mtz) else (JX9_gone_167 FI CO CR SI SR BO (LX9_gone_85 FI CO CR SI SR BO k176 k) k176 a1 a2 a3 a4 a5 a6 a7 a8 a9 a10 a11 a12 a13 a14 a15 a16 mtx mty mtz)) else (if a14 = a5 then (if a15 = a6 then (if a16 = a7 then (JX9_gone_146 FI CO CR SI SR BO a8 a14 a15 a16 mtx mty mtz) else (JX9_gone_167 FI CO CR SI SR BO (LX9_gone_85 FI CO CR SI SR BO k176 k) k176 a1 a2 a3 a4 a5 a6 a7 a8 a9 a10 a11 a12 a13 a14 a15 a16 mtx mty mtz)) else (JX9_gone_167 FI CO CR SI SR BO (LX9_gone_85 FI CO CR SI SR BO k176 k) k176 a1 a2 a3 a4 a5 a6 a7 a8 a9 a10 a11 a12 a13 a14 a15 a16 mtx mty mtz)) else (JX9_gone_167 FI CO CR SI SR BO (LX9_gone_85 FI CO CR SI SR BO k176 k) k176 a1 a2 a3 a4 a5 a6 a7 a8 a9 a10 a11 a12 a13 a14 a15 a16 mtx mty mtz)))))))
def LX9_gone_74 (FI : Nat → Int32) (CO : Nat → Int32) (CR : Nat → Int32) (SI : Nat → Int32) (SR : Nat → Int32) (BO : Nat → Int32) (k182 : Int32 → Int32 → Int32 → Int32 → Int32 → Int32 → Int32 → Int32 → Int32 → Int32 → Int32 → Int32 → Int32 → Int32 → Int32 → Int32 → Int32 → Option (Int32 × Int32 × Int32 × Int32)) : Nat → Int32 → Int32 → Int32 → Int32 → Int32 → Int32 → Int32 → Int32 → Int32 → Int32 → Int32 → Int32 → Int32 → Int32 → Int32 → Int32 → Int32 → Int32 → Option (Int32 × Int32 × Int32 × Int32)
  | 0, _, _, _, _, _, _, _, _, _, _, _, _, _, _, _, _, _, _ => none
  | k + 1, a1, a2, a3, a4, a5, a6, a7, a8, a9, a10, a11, a12, a13, a14, a15, mtx, mty, mtz =>
  (if a12 < a15 then (k182 a1 a2 a3 a4 a5 a6 a7 a8 a9 a10 a11 a12 a13 a14 mtx mty mtz) else (LX9_gone_85 FI CO CR SI SR BO (fun a1 a2 a3 a4 a5 a6 a7 a8 a9 a10 a11 a12 a13 a14 a15 mtx mty mtz => (LX9_gone_74 FI CO CR SI SR BO k182 k a1 a2 a3 a4 a5 a6 a7 a8 a9 a10 a11 a12 a13 a14 (a15 + 1) mtx mty mtz)) FU a1 a2 a3 a4 a5 a6 a7 a8 a9 a10 a11 a12 a13 a14 a15 a10 mtx mty mtz))
def LX9_gone_63 (FI : Nat → Int32) (CO : Nat → Int32) (CR : Nat → Int32) (SI : Nat → Int32) (SR : Nat → Int32) (BO : Nat → Int32)  : Nat → Int32 → Int32 → Int32 → Int32 → Int32 → Int32 → Int32 → Int32 → Int32 → Int32 → Int32 → Int32 → Int32 → Int32 → Int32 → Int32 → Int32 → Option (Int32 × Int32 × Int32 × Int32)
  | 0, _, _, _, _, _, _, _, _, _, _, _, _, _, _, _, _, _ => none
  | k + 1, a1, a2, a3, a4, a5, a6, a7, a8, a9, a10, a11, a12, a13, a14, mtx, mty, mtz =>
  (if a11 < a14 then (some ((-4), mtx, mty, mtz)) else (LX9_gone_74 FI CO CR SI SR BO (fun a1 a2 a3 a4 a5 a6 a7 a8 a9 a10 a11 a12 a13 a14 mtx mty mtz => (LX9_gone_63 FI CO CR SI SR BO k a1 a2 a3 a4 a5 a6 a7 a8 a9 a10 a11 a12 a13 (a14 + 1) mtx mty mtz)) FU a1 a2 a3 a4 a5 a6 a7 a8 a9 a10 a11 a12 a13 a14 a9 mtx mty mtz))
def fX9_gone (tx : Int32) (ty : Int32) (tz : Int32) (FI : Nat → Int32) (CO : Nat → Int32) (CR : Nat → Int32) (SI : Nat → Int32) (SR : Nat → Int32) (BO : Nat → Int32) (p1 : Int32) (p2 : Int32) (p3 : Int32) (p4 : Int32) (p5 : Int32) (p6 : Int32) (p7 : Int32) : Option (Int32 × Int32 × Int32 × Int32) :=
  (bd (fX9_least CO CR p1 1) (fun v_1 => (bd (fX9_least CO CR p1 2) (fun v_2 => (bd (fX9_greatest CO CR p1 0) (fun v_3 => (bd (fX9_greatest CO CR p1 1) (fun v_4 => (bd (fX9_greatest CO CR p1 2) (fun v_5 => (bd (fX9_least CO CR p1 0) (fun v_6 => (LX9_gone_63 FI CO CR SI SR BO FU p1 p2 p3 p4 p5 p6 p7 0 (p2 * v_1) (p2 * v_2) (p2 * v_3) (p2 * v_4) (p2 * v_5) (p2 * v_6) tx ty tz)))))))))))))
abbrev rX9_gone : Room := { frames := 1, cells := 0, slots := 0, locals := 47 }
set_option maxHeartbeats 40000000 in
set_option maxRecDepth 100000 in
theorem kX9_gone (l : Launch) (G : GT) (h0 qDR qLA qLE qCE qFI qCO qCR qSI qSR qMO qBO qPX qPY qPZ qSX : Nat) (sz : Nat) (dr : Int32) (bo : Int32) (po : Int32) (sx : Int32) (sy : Int32) (sw : Int32) (tx : Int32) (ty : Int32) (tz : Int32) (DR : Nat → Int32) (LA : Nat → Int32) (LE : Nat → Int32) (CE : Nat → Int64) (FI : Nat → Int32) (CO : Nat → Int32) (CR : Nat → Int32) (SI : Nat → Int32) (SR : Nat → Int32) (MO : Nat → Int32) (BO : Nat → Int32) (PX : Nat → Int32) (PY : Nat → Int32) (PZ : Nat → Int32) (SX : Nat → Int32) (p1 : Int32) (p2 : Int32) (p3 : Int32) (p4 : Int32) (p5 : Int32) (p6 : Int32) (p7 : Int32) (res : Int32 × Int32 × Int32 × Int32) (hF : fX9_gone tx ty tz FI CO CR SI SR BO p1 p2 p3 p4 p5 p6 p7 = some res) : Met l yX9_gone wsX9_gone rX9_gone (va_Pc [.ref h0, .int p1, .int p2, .int p3, .int p4, .int p5, .int p6, .int p7] (pW G sz (wMod G h0 qDR qLA qLE qCE qFI qCO qCR qSI qSR qMO qBO qPX qPY qPZ qSX dr bo po sx sy sw tx ty tz DR LA LE CE FI CO CR SI SR MO BO PX PY PZ SX))) (va_Qi (fun (r : Int32) (u : Int32 × Int32 × Int32) => r = res.1 ∧ u = res.2) (fun u t => qW G (va_A (wMod G h0 qDR qLA qLE qCE qFI qCO qCR qSI qSR qMO qBO qPX qPY qPZ qSX dr bo po sx sy sw tx ty tz DR LA LE CE FI CO CR SI SR MO BO PX PY PZ SX) sz) (wMod G h0 qDR qLA qLE qCE qFI qCO qCR qSI qSR qMO qBO qPX qPY qPZ qSX dr bo po sx sy sw u.1 u.2.1 u.2.2 DR LA LE CE FI CO CR SI SR MO BO PX PY PZ SX) t) (va_A (wMod G h0 qDR qLA qLE qCE qFI qCO qCR qSI qSR qMO qBO qPX qPY qPZ qSX dr bo po sx sy sw tx ty tz DR LA LE CE FI CO CR SI SR MO BO PX PY PZ SX) sz)) 0 0 (va_A (wMod G h0 qDR qLA qLE qCE qFI qCO qCR qSI qSR qMO qBO qPX qPY qPZ qSX dr bo po sx sy sw tx ty tz DR LA LE CE FI CO CR SI SR MO BO PX PY PZ SX) sz) := by
  refine Met.ofW (cc := cX9_gone) (maxL := 17) (ret := (some .int)) (by decide) rfl ?_
  intro p e s m args below meth c s₁ B hml hv
  obtain ⟨rfl, hsz, hP, hK, hD0⟩ := hv
  have hx := B.exec
  have hb := B.bytes
  have hr := B.returns
  have hts := atoms_spec (ws := wsX9_gone) B.pre
  have hown : s.vm.findClass RX9 = some m.cls := findClass_of_methodNamed B.named
  have hlocks := B.notSynchronized
  subst hsz
  have hD := hD0.self (sz := s.heap.size)
  generalize hAe : va_A (wMod G h0 qDR qLA qLE qCE qFI qCO qCR qSI qSR qMO qBO qPX qPY qPZ qSX dr bo po sx sy sw tx ty tz DR LA LE CE FI CO CR SI SR MO BO PX PY PZ SX) s.heap.size = A at hD ⊢
  have hA : ∀ q : Nat, s.heap.size ≤ q → A q := fun q h => by rw [← hAe]; exact Or.inr h
  have hS : va_S A s.heap s.heap [] := va_S.rf
  have hin9 : ∀ w ∈ u_ws RX9 TX9 24, w ∈ wsX9_gone := by decide +kernel
  have hfl191 := hts (.fieldLink RX9 191 "SwellBodiesModel" "atX" "I") (by decide +kernel)
  have hfl194 := hts (.fieldLink RX9 194 "SwellBodiesModel" "atY" "I") (by decide +kernel)
  have hfl197 := hts (.fieldLink RX9 197 "SwellBodiesModel" "atZ" "I") (by decide +kernel)
  have hl := lv_entry ([.ref h0, .int p1, .int p2, .int p3, .int p4, .int p5, .int p6, .int p7]) (n := 17) (Nat.le_of_ble_eq_true rfl)
  rw [lg_entry_eq]
  generalize (lg_sl ([.ref h0, .int p1, .int p2, .int p3, .int p4, .int p5, .int p6, .int p7]) ++ List.replicate (17 - (lg_sl ([.ref h0, .int p1, .int p2, .int p3, .int p4, .int p5, .int p6, .int p7])).length) Slot.unset).toArray = ls at hl ⊢
  have hl : lv_has ls 17 [(0, .ref h0), (1, .int p1), (2, .int p2), (3, .int p3), (4, .int p4), (5, .int p5), (6, .int p6), (7, .int p7)] := hl
  have hJ170 : ∀ (k85 : Int32 → Int32 → Int32 → Int32 → Int32 → Int32 → Int32 → Int32 → Int32 → Int32 → Int32 → Int32 → Int32 → Int32 → Int32 → Int32 → Int32 → Int32 → Int32 → Option (Int32 × Int32 × Int32 × Int32)), (∀ (a1 : Int32) (a2 : Int32) (a3 : Int32) (a4 : Int32) (a5 : Int32) (a6 : Int32) (a7 : Int32) (a8 : Int32) (a9 : Int32) (a10 : Int32) (a11 : Int32) (a12 : Int32) (a13 : Int32) (a14 : Int32) (a15 : Int32) (a16 : Int32) (mtx : Int32) (mty : Int32) (mtz : Int32) (H : Heap) (locs : List Loc) (ls : Array Slot), k85 a1 a2 a3 a4 a5 a6 a7 a8 a9 a10 a11 a12 a13 a14 a15 a16 mtx mty mtz = some res → va_P (gD G) vwCl (wMod G h0 qDR qLA qLE qCE qFI qCO qCR qSI qSR qMO qBO qPX qPY qPZ qSX dr bo po sx sy sw mtx mty mtz DR LA LE CE FI CO CR SI SR MO BO PX PY PZ SX) H → va_D A (wMod G h0 qDR qLA qLE qCE qFI qCO qCR qSI qSR qMO qBO qPX qPY qPZ qSX dr bo po sx sy sw mtx mty mtz DR LA LE CE FI CO CR SI SR MO BO PX PY PZ SX) → va_S A s.heap H locs → lv_has ls 17 [(0, .ref h0), (1, .int a1), (2, .int a2), (3, .int a3), (4, .int a4), (5, .int a5), (6, .int a6), (7, .int a7), (8, .int a8), (9, .int a9), (10, .int a10), (11, .int a11), (12, .int a12), (13, .int a13), (14, .int a14), (15, .int a15), (16, .int a16)] → W p l e (headSpec wsX9_gone rX9_gone).room s m ([.ref h0, .int p1, .int p2, .int p3, .int p4, .int p5, .int p6, .int p7] : List Value).toArray below meth c H locs 0 0 (MQ below (va_Qi (fun (r : Int32) (u : Int32 × Int32 × Int32) => r = res.1 ∧ u = res.2) (fun u t => qW G A (wMod G h0 qDR qLA qLE qCE qFI qCO qCR qSI qSR qMO qBO qPX qPY qPZ qSX dr bo po sx sy sw u.1 u.2.1 u.2.2 DR LA LE CE FI CO CR SI SR MO BO PX PY PZ SX) t) A) ([.ref h0, .int p1, .int p2, .int p3, .int p4, .int p5, .int p6, .int p7] : List Value).toArray s 0 0 A) (F0 m 85 ls [])) → ∀ (k176 : Int32 → Int32 → Int32 → Int32 → Int32 → Int32 → Int32 → Int32 → Int32 → Int32 → Int32 → Int32 → Int32 → Int32 → Int32 → Int32 → Int32 → Int32 → Option (Int32 × Int32 × Int32 × Int32)), (∀ (a1 : Int32) (a2 : Int32) (a3 : Int32) (a4 : Int32) (a5 : Int32) (a6 : Int32) (a7 : Int32) (a8 : Int32) (a9 : Int32) (a10 : Int32) (a11 : Int32) (a12 : Int32) (a13 : Int32) (a14 : Int32) (a15 : Int32) (mtx : Int32) (mty : Int32) (mtz : Int32) (H : Heap) (locs : List Loc) (ls : Array Slot), k176 a1 a2 a3 a4 a5 a6 a7 a8 a9 a10 a11 a12 a13 a14 a15 mtx mty mtz = some res → va_P (gD G) vwCl (wMod G h0 qDR qLA qLE qCE qFI qCO qCR qSI qSR qMO qBO qPX qPY qPZ qSX dr bo po sx sy sw mtx mty mtz DR LA LE CE FI CO CR SI SR MO BO PX PY PZ SX) H → va_D A (wMod G h0 qDR qLA qLE qCE qFI qCO qCR qSI qSR qMO qBO qPX qPY qPZ qSX dr bo po sx sy sw mtx mty mtz DR LA LE CE FI CO CR SI SR MO BO PX PY PZ SX) → va_S A s.heap H locs → lv_has ls 17 [(0, .ref h0), (1, .int a1), (2, .int a2), (3, .int a3), (4, .int a4), (5, .int a5), (6, .int a6), (7, .int a7), (8, .int a8), (9, .int a9), (10, .int a10), (11, .int a11), (12, .int a12), (13, .int a13), (14, .int a14), (15, .int a15)] → W p l e (headSpec wsX9_gone rX9_gone).room s m ([.ref h0, .int p1, .int p2, .int p3, .int p4, .int p5, .int p6, .int p7] : List Value).toArray below meth c H locs 0 0 (MQ below (va_Qi (fun (r : Int32) (u : Int32 × Int32 × Int32) => r = res.1 ∧ u = res.2) (fun u t => qW G A (wMod G h0 qDR qLA qLE qCE qFI qCO qCR qSI qSR qMO qBO qPX qPY qPZ qSX dr bo po sx sy sw u.1 u.2.1 u.2.2 DR LA LE CE FI CO CR SI SR MO BO PX PY PZ SX) t) A) ([.ref h0, .int p1, .int p2, .int p3, .int p4, .int p5, .int p6, .int p7] : List Value).toArray s 0 0 A) (F0 m 176 ls [])) → ∀ (a1 : Int32) (a2 : Int32) (a3 : Int32) (a4 : Int32) (a5 : Int32) (a6 : Int32) (a7 : Int32) (a8 : Int32) (a9 : Int32) (a10 : Int32) (a11 : Int32) (a12 : Int32) (a13 : Int32) (a14 : Int32) (a15 : Int32) (a16 : Int32) (mtx : Int32) (mty : Int32) (mtz : Int32) (H : Heap) (locs : List Loc) (ls : Array Slot), JX9_gone_170 FI CO CR SI SR BO k85 k176 a1 a2 a3 a4 a5 a6 a7 a8 a9 a10 a11 a12 a13 a14 a15 a16 mtx mty mtz = some res → va_P (gD G) vwCl (wMod G h0 qDR qLA qLE qCE qFI qCO qCR qSI qSR qMO qBO qPX qPY qPZ qSX dr bo po sx sy sw mtx mty mtz DR LA LE CE FI CO CR SI SR MO BO PX PY PZ SX) H → va_D A (wMod G h0 qDR qLA qLE qCE qFI qCO qCR qSI qSR qMO qBO qPX qPY qPZ qSX dr bo po sx sy sw mtx mty mtz DR LA LE CE FI CO CR SI SR MO BO PX PY PZ SX) → va_S A s.heap H locs → lv_has ls 17 [(0, .ref h0), (1, .int a1), (2, .int a2), (3, .int a3), (4, .int a4), (5, .int a5), (6, .int a6), (7, .int a7), (8, .int a8), (9, .int a9), (10, .int a10), (11, .int a11), (12, .int a12), (13, .int a13), (14, .int a14), (15, .int a15), (16, .int a16)] → W p l e (headSpec wsX9_gone rX9_gone).room s m ([.ref h0, .int p1, .int p2, .int p3, .int p4, .int p5, .int p6, .int p7] : List Value).toArray below meth c H locs 0 0 (MQ below (va_Qi (fun (r : Int32) (u : Int32 × Int32 × Int32) => r = res.1 ∧ u = res.2) (fun u t => qW G A (wMod G h0 qDR qLA qLE qCE qFI qCO qCR qSI qSR qMO qBO qPX qPY qPZ qSX dr bo po sx sy sw u.1 u.2.1 u.2.2 DR LA LE CE FI CO CR SI SR MO BO PX PY PZ SX) t) A) ([.ref h0, .int p1, .int p2, .int p3, .int p4, .int p5, .int p6, .int p7] : List Value).toArray s 0 0 A) (F0 m 170 ls []) := by
    intro k85 hk85 k176 hk176
    intro a1 a2 a3 a4 a5 a6 a7 a8 a9 a10 a11 a12 a13 a14 a15 a16 mtx mty mtz H locs ls hF hP hD hS hl
    unfold JX9_gone_170 at hF
    refine lv_iinc (v := a16 + 1) (lv' := [(16, .int (a16 + 1)), (0, .ref h0), (1, .int a1), (2, .int a2), (3, .int a3), (4, .int a4), (5, .int a5), (6, .int a6), (7, .int a7), (8, .int a8), (9, .int a9), (10, .int a10), (11, .int a11), (12, .int a12), (13, .int a13), (14, .int a14), (15, .int a15)]) hx hb dX9_gone_170 hl (k := 16) rfl rfl (by decide) rfl (fun ls hl => ?_)
    refine lv_goto (tgt := 85) hx hb dX9_gone_173 (by decide) ?_
    exact hk85 a1 a2 a3 a4 a5 a6 a7 a8 a9 a10 a11 a12 a13 a14 a15 (a16 + 1) mtx mty mtz _ _ _ hF hP hD hS (lv_sub hl [1, 2, 3, 4, 5, 6, 7, 8, 9, 10, 11, 12, 13, 14, 15, 16, 0] rfl)
  have hJ167 : ∀ (k85 : Int32 → Int32 → Int32 → Int32 → Int32 → Int32 → Int32 → Int32 → Int32 → Int32 → Int32 → Int32 → Int32 → Int32 → Int32 → Int32 → Int32 → Int32 → Int32 → Option (Int32 × Int32 × Int32 × Int32)), (∀ (a1 : Int32) (a2 : Int32) (a3 : Int32) (a4 : Int32) (a5 : Int32) (a6 : Int32) (a7 : Int32) (a8 : Int32) (a9 : Int32) (a10 : Int32) (a11 : Int32) (a12 : Int32) (a13 : Int32) (a14 : Int32) (a15 : Int32) (a16 : Int32) (mtx : Int32) (mty : Int32) (mtz : Int32) (H : Heap) (locs : List Loc) (ls : Array Slot), k85 a1 a2 a3 a4 a5 a6 a7 a8 a9 a10 a11 a12 a13 a14 a15 a16 mtx mty mtz = some res → va_P (gD G) vwCl (wMod G h0 qDR qLA qLE qCE qFI qCO qCR qSI qSR qMO qBO qPX qPY qPZ qSX dr bo po sx sy sw mtx mty mtz DR LA LE CE FI CO CR SI SR MO BO PX PY PZ SX) H → va_D A (wMod G h0 qDR qLA qLE qCE qFI qCO qCR qSI qSR qMO qBO qPX qPY qPZ qSX dr bo po sx sy sw mtx mty mtz DR LA LE CE FI CO CR SI SR MO BO PX PY PZ SX) → va_S A s.heap H locs → lv_has ls 17 [(0, .ref h0), (1, .int a1), (2, .int a2), (3, .int a3), (4, .int a4), (5, .int a5), (6, .int a6), (7, .int a7), (8, .int a8), (9, .int a9), (10, .int a10), (11, .int a11), (12, .int a12), (13, .int a13), (14, .int a14), (15, .int a15), (16, .int a16)] → W p l e (headSpec wsX9_gone rX9_gone).room s m ([.ref h0, .int p1, .int p2, .int p3, .int p4, .int p5, .int p6, .int p7] : List Value).toArray below meth c H locs 0 0 (MQ below (va_Qi (fun (r : Int32) (u : Int32 × Int32 × Int32) => r = res.1 ∧ u = res.2) (fun u t => qW G A (wMod G h0 qDR qLA qLE qCE qFI qCO qCR qSI qSR qMO qBO qPX qPY qPZ qSX dr bo po sx sy sw u.1 u.2.1 u.2.2 DR LA LE CE FI CO CR SI SR MO BO PX PY PZ SX) t) A) ([.ref h0, .int p1, .int p2, .int p3, .int p4, .int p5, .int p6, .int p7] : List Value).toArray s 0 0 A) (F0 m 85 ls [])) → ∀ (k176 : Int32 → Int32 → Int32 → Int32 → Int32 → Int32 → Int32 → Int32 → Int32 → Int32 → Int32 → Int32 → Int32 → Int32 → Int32 → Int32 → Int32 → Int32 → Option (Int32 × Int32 × Int32 × Int32)), (∀ (a1 : Int32) (a2 : Int32) (a3 : Int32) (a4 : Int32) (a5 : Int32) (a6 : Int32) (a7 : Int32) (a8 : Int32) (a9 : Int32) (a10 : Int32) (a11 : Int32) (a12 : Int32) (a13 : Int32) (a14 : Int32) (a15 : Int32) (mtx : Int32) (mty : Int32) (mtz : Int32) (H : Heap) (locs : List Loc) (ls : Array Slot), k176 a1 a2 a3 a4 a5 a6 a7 a8 a9 a10 a11 a12 a13 a14 a15 mtx mty mtz = some res → va_P (gD G) vwCl (wMod G h0 qDR qLA qLE qCE qFI qCO qCR qSI qSR qMO qBO qPX qPY qPZ qSX dr bo po sx sy sw mtx mty mtz DR LA LE CE FI CO CR SI SR MO BO PX PY PZ SX) H → va_D A (wMod G h0 qDR qLA qLE qCE qFI qCO qCR qSI qSR qMO qBO qPX qPY qPZ qSX dr bo po sx sy sw mtx mty mtz DR LA LE CE FI CO CR SI SR MO BO PX PY PZ SX) → va_S A s.heap H locs → lv_has ls 17 [(0, .ref h0), (1, .int a1), (2, .int a2), (3, .int a3), (4, .int a4), (5, .int a5), (6, .int a6), (7, .int a7), (8, .int a8), (9, .int a9), (10, .int a10), (11, .int a11), (12, .int a12), (13, .int a13), (14, .int a14), (15, .int a15)] → W p l e (headSpec wsX9_gone rX9_gone).room s m ([.ref h0, .int p1, .int p2, .int p3, .int p4, .int p5, .int p6, .int p7] : List Value).toArray below meth c H locs 0 0 (MQ below (va_Qi (fun (r : Int32) (u : Int32 × Int32 × Int32) => r = res.1 ∧ u = res.2) (fun u t => qW G A (wMod G h0 qDR qLA qLE qCE qFI qCO qCR qSI qSR qMO qBO qPX qPY qPZ qSX dr bo po sx sy sw u.1 u.2.1 u.2.2 DR LA LE CE FI CO CR SI SR MO BO PX PY PZ SX) t) A) ([.ref h0, .int p1, .int p2, .int p3, .int p4, .int p5, .int p6, .int p7] : List Value).toArray s 0 0 A) (F0 m 176 ls [])) → ∀ (a1 : Int32) (a2 : Int32) (a3 : Int32) (a4 : Int32) (a5 : Int32) (a6 : Int32) (a7 : Int32) (a8 : Int32) (a9 : Int32) (a10 : Int32) (a11 : Int32) (a12 : Int32) (a13 : Int32) (a14 : Int32) (a15 : Int32) (a16 : Int32) (mtx : Int32) (mty : Int32) (mtz : Int32) (H : Heap) (locs : List Loc) (ls : Array Slot), JX9_gone_167 FI CO CR SI SR BO k85 k176 a1 a2 a3 a4 a5 a6 a7 a8 a9 a10 a11 a12 a13 a14 a15 a16 mtx mty mtz = some res → va_P (gD G) vwCl (wMod G h0 qDR qLA qLE qCE qFI qCO qCR qSI qSR qMO qBO qPX qPY qPZ qSX dr bo po sx sy sw mtx mty mtz DR LA LE CE FI CO CR SI SR MO BO PX PY PZ SX) H → va_D A (wMod G h0 qDR qLA qLE qCE qFI qCO qCR qSI qSR qMO qBO qPX qPY qPZ qSX dr bo po sx sy sw mtx mty mtz DR LA LE CE FI CO CR SI SR MO BO PX PY PZ SX) → va_S A s.heap H locs → lv_has ls 17 [(0, .ref h0), (1, .int a1), (2, .int a2), (3, .int a3), (4, .int a4), (5, .int a5), (6, .int a6), (7, .int a7), (8, .int a8), (9, .int a9), (10, .int a10), (11, .int a11), (12, .int a12), (13, .int a13), (14, .int a14), (15, .int a15), (16, .int a16)] → W p l e (headSpec wsX9_gone rX9_gone).room s m ([.ref h0, .int p1, .int p2, .int p3, .int p4, .int p5, .int p6, .int p7] : List Value).toArray below meth c H locs 0 0 (MQ below (va_Qi (fun (r : Int32) (u : Int32 × Int32 × Int32) => r = res.1 ∧ u = res.2) (fun u t => qW G A (wMod G h0 qDR qLA qLE qCE qFI qCO qCR qSI qSR qMO qBO qPX qPY qPZ qSX dr bo po sx sy sw u.1 u.2.1 u.2.2 DR LA LE CE FI CO CR SI SR MO BO PX PY PZ SX) t) A) ([.ref h0, .int p1, .int p2, .int p3, .int p4, .int p5, .int p6, .int p7] : List Value).toArray s 0 0 A) (F0 m 167 ls []) := by
    intro k85 hk85 k176 hk176
    intro a1 a2 a3 a4 a5 a6 a7 a8 a9 a10 a11 a12 a13 a14 a15 a16 mtx mty mtz H locs ls hF hP hD hS hl
    unfold JX9_gone_167 at hF
    refine lv_iinc (v := a8 + 1) (lv' := [(8, .int (a8 + 1)), (0, .ref h0), (1, .int a1), (2, .int a2), (3, .int a3), (4, .int a4), (5, .int a5), (6, .int a6), (7, .int a7), (9, .int a9), (10, .int a10), (11, .int a11), (12, .int a12), (13, .int a13), (14, .int a14), (15, .int a15), (16, .int a16)]) hx hb dX9_gone_167 hl (k := 8) rfl rfl (by decide) rfl (fun ls hl => ?_)
    exact hJ170 _ hk85 _ hk176 a1 a2 a3 a4 a5 a6 a7 (a8 + 1) a9 a10 a11 a12 a13 a14 a15 a16 mtx mty mtz _ _ _ hF hP hD hS (lv_sub hl [1, 2, 3, 4, 5, 6, 7, 8, 0, 9, 10, 11, 12, 13, 14, 15, 16] rfl)
  have hJ146 : ∀ (a8 : Int32) (a14 : Int32) (a15 : Int32) (a16 : Int32) (mtx : Int32) (mty : Int32) (mtz : Int32) (H : Heap) (locs : List Loc) (ls : Array Slot), JX9_gone_146 FI CO CR SI SR BO a8 a14 a15 a16 mtx mty mtz = some res → va_P (gD G) vwCl (wMod G h0 qDR qLA qLE qCE qFI qCO qCR qSI qSR qMO qBO qPX qPY qPZ qSX dr bo po sx sy sw mtx mty mtz DR LA LE CE FI CO CR SI SR MO BO PX PY PZ SX) H → va_D A (wMod G h0 qDR qLA qLE qCE qFI qCO qCR qSI qSR qMO qBO qPX qPY qPZ qSX dr bo po sx sy sw mtx mty mtz DR LA LE CE FI CO CR SI SR MO BO PX PY PZ SX) → va_S A s.heap H locs → lv_has ls 17 [(0, .ref h0), (8, .int a8), (14, .int a14), (15, .int a15), (16, .int a16)] → W p l e (headSpec wsX9_gone rX9_gone).room s m ([.ref h0, .int p1, .int p2, .int p3, .int p4, .int p5, .int p6, .int p7] : List Value).toArray below meth c H locs 0 0 (MQ below (va_Qi (fun (r : Int32) (u : Int32 × Int32 × Int32) => r = res.1 ∧ u = res.2) (fun u t => qW G A (wMod G h0 qDR qLA qLE qCE qFI qCO qCR qSI qSR qMO qBO qPX qPY qPZ qSX dr bo po sx sy sw u.1 u.2.1 u.2.2 DR LA LE CE FI CO CR SI SR MO BO PX PY PZ SX) t) A) ([.ref h0, .int p1, .int p2, .int p3, .int p4, .int p5, .int p6, .int p7] : List Value).toArray s 0 0 A) (F0 m 146 ls []) := by
    intro a8 a14 a15 a16 mtx mty mtz H locs ls hF hP hD hS hl
    unfold JX9_gone_146 at hF
    refine lv_aload_n hx hb dX9_gone_146 rfl (lv_at hl 0 rfl) ?_
    refine lv_iload hx hb dX9_gone_147 (lv_at hl 2 rfl) ?_
    refine va_put (ci := 9) (v := .int a14) (ty := .int) (C := RX9) (T := TX9) (N := 24) hx hb hts hin9 tyX9 tyX9_ok nmX9 hown hK hP hD hS 0 rfl rfl 21 (by decide) hfl191 (fun _ h9 => h9) rfl (by decide +kernel) rfl rfl (Nat.le_of_ble_eq_true rfl) dX9_gone_149 (fun H locs hP hD hS => ?_)
    have hP : va_P (gD G) vwCl (wMod G h0 qDR qLA qLE qCE qFI qCO qCR qSI qSR qMO qBO qPX qPY qPZ qSX dr bo po sx sy sw a14 mty mtz DR LA LE CE FI CO CR SI SR MO BO PX PY PZ SX) H := hP
    have hD : va_D A (wMod G h0 qDR qLA qLE qCE qFI qCO qCR qSI qSR qMO qBO qPX qPY qPZ qSX dr bo po sx sy sw a14 mty mtz DR LA LE CE FI CO CR SI SR MO BO PX PY PZ SX) := hD
    refine lv_aload_n hx hb dX9_gone_152 rfl (lv_at hl 0 rfl) ?_
    refine lv_iload hx hb dX9_gone_153 (lv_at hl 3 rfl) ?_
    refine va_put (ci := 9) (v := .int a15) (ty := .int) (C := RX9) (T := TX9) (N := 24) hx hb hts hin9 tyX9 tyX9_ok nmX9 hown hK hP hD hS 0 rfl rfl 22 (by decide) hfl194 (fun _ h9 => h9) rfl (by decide +kernel) rfl rfl (Nat.le_of_ble_eq_true rfl) dX9_gone_155 (fun H locs hP hD hS => ?_)
    have hP : va_P (gD G) vwCl (wMod G h0 qDR qLA qLE qCE qFI qCO qCR qSI qSR qMO qBO qPX qPY qPZ qSX dr bo po sx sy sw a14 a15 mtz DR LA LE CE FI CO CR SI SR MO BO PX PY PZ SX) H := hP
    have hD : va_D A (wMod G h0 qDR qLA qLE qCE qFI qCO qCR qSI qSR qMO qBO qPX qPY qPZ qSX dr bo po sx sy sw a14 a15 mtz DR LA LE CE FI CO CR SI SR MO BO PX PY PZ SX) := hD
    refine lv_aload_n hx hb dX9_gone_158 rfl (lv_at hl 0 rfl) ?_
    refine lv_iload hx hb dX9_gone_159 (lv_at hl 4 rfl) ?_
    refine va_put (ci := 9) (v := .int a16) (ty := .int) (C := RX9) (T := TX9) (N := 24) hx hb hts hin9 tyX9 tyX9_ok nmX9 hown hK hP hD hS 0 rfl rfl 23 (by decide) hfl197 (fun _ h9 => h9) rfl (by decide +kernel) rfl rfl (Nat.le_of_ble_eq_true rfl) dX9_gone_161 (fun H locs hP hD hS => ?_)
    have hP : va_P (gD G) vwCl (wMod G h0 qDR qLA qLE qCE qFI qCO qCR qSI qSR qMO qBO qPX qPY qPZ qSX dr bo po sx sy sw a14 a15 a16 DR LA LE CE FI CO CR SI SR MO BO PX PY PZ SX) H := hP
    have hD : va_D A (wMod G h0 qDR qLA qLE qCE qFI qCO qCR qSI qSR qMO qBO qPX qPY qPZ qSX dr bo po sx sy sw a14 a15 a16 DR LA LE CE FI CO CR SI SR MO BO PX PY PZ SX) := hD
    refine lv_iload hx hb dX9_gone_164 (lv_at hl 1 rfl) ?_
    exact W.iret (v := a8) hx hb hr  (fun t ht hW => ⟨⟨a8, (a14, a15, a16), rfl, pr_e hF, qW_mk ht hP hK hW hD⟩, hS.F ht⟩) hS.2.2 dX9_gone_166
  have hL85 : ∀ (k176 : Int32 → Int32 → Int32 → Int32 → Int32 → Int32 → Int32 → Int32 → Int32 → Int32 → Int32 → Int32 → Int32 → Int32 → Int32 → Int32 → Int32 → Int32 → Option (Int32 × Int32 × Int32 × Int32)), (∀ (a1 : Int32) (a2 : Int32) (a3 : Int32) (a4 : Int32) (a5 : Int32) (a6 : Int32) (a7 : Int32) (a8 : Int32) (a9 : Int32) (a10 : Int32) (a11 : Int32) (a12 : Int32) (a13 : Int32) (a14 : Int32) (a15 : Int32) (mtx : Int32) (mty : Int32) (mtz : Int32) (H : Heap) (locs : List Loc) (ls : Array Slot), k176 a1 a2 a3 a4 a5 a6 a7 a8 a9 a10 a11 a12 a13 a14 a15 mtx mty mtz = some res → va_P (gD G) vwCl (wMod G h0 qDR qLA qLE qCE qFI qCO qCR qSI qSR qMO qBO qPX qPY qPZ qSX dr bo po sx sy sw mtx mty mtz DR LA LE CE FI CO CR SI SR MO BO PX PY PZ SX) H → va_D A (wMod G h0 qDR qLA qLE qCE qFI qCO qCR qSI qSR qMO qBO qPX qPY qPZ qSX dr bo po sx sy sw mtx mty mtz DR LA LE CE FI CO CR SI SR MO BO PX PY PZ SX) → va_S A s.heap H locs → lv_has ls 17 [(0, .ref h0), (1, .int a1), (2, .int a2), (3, .int a3), (4, .int a4), (5, .int a5), (6, .int a6), (7, .int a7), (8, .int a8), (9, .int a9), (10, .int a10), (11, .int a11), (12, .int a12), (13, .int a13), (14, .int a14), (15, .int a15)] → W p l e (headSpec wsX9_gone rX9_gone).room s m ([.ref h0, .int p1, .int p2, .int p3, .int p4, .int p5, .int p6, .int p7] : List Value).toArray below meth c H locs 0 0 (MQ below (va_Qi (fun (r : Int32) (u : Int32 × Int32 × Int32) => r = res.1 ∧ u = res.2) (fun u t => qW G A (wMod G h0 qDR qLA qLE qCE qFI qCO qCR qSI qSR qMO qBO qPX qPY qPZ qSX dr bo po sx sy sw u.1 u.2.1 u.2.2 DR LA LE CE FI CO CR SI SR MO BO PX PY PZ SX) t) A) ([.ref h0, .int p1, .int p2, .int p3, .int p4, .int p5, .int p6, .int p7] : List Value).toArray s 0 0 A) (F0 m 176 ls [])) → ∀ (k : Nat), ∀ (a1 : Int32) (a2 : Int32) (a3 : Int32) (a4 : Int32) (a5 : Int32) (a6 : Int32) (a7 : Int32) (a8 : Int32) (a9 : Int32) (a10 : Int32) (a11 : Int32) (a12 : Int32) (a13 : Int32) (a14 : Int32) (a15 : Int32) (a16 : Int32) (mtx : Int32) (mty : Int32) (mtz : Int32) (H : Heap) (locs : List Loc) (ls : Array Slot), LX9_gone_85 FI CO CR SI SR BO k176 k a1 a2 a3 a4 a5 a6 a7 a8 a9 a10 a11 a12 a13 a14 a15 a16 mtx mty mtz = some res → va_P (gD G) vwCl (wMod G h0 qDR qLA qLE qCE qFI qCO qCR qSI qSR qMO qBO qPX qPY qPZ qSX dr bo po sx sy sw mtx mty mtz DR LA LE CE FI CO CR SI SR MO BO PX PY PZ SX) H → va_D A (wMod G h0 qDR qLA qLE qCE qFI qCO qCR qSI qSR qMO qBO qPX qPY qPZ qSX dr bo po sx sy sw mtx mty mtz DR LA LE CE FI CO CR SI SR MO BO PX PY PZ SX) → va_S A s.heap H locs → lv_has ls 17 [(0, .ref h0), (1, .int a1), (2, .int a2), (3, .int a3), (4, .int a4), (5, .int a5), (6, .int a6), (7, .int a7), (8, .int a8), (9, .int a9), (10, .int a10), (11, .int a11), (12, .int a12), (13, .int a13), (14, .int a14), (15, .int a15), (16, .int a16)] → W p l e (headSpec wsX9_gone rX9_gone).room s m ([.ref h0, .int p1, .int p2, .int p3, .int p4, .int p5, .int p6, .int p7] : List Value).toArray below meth c H locs 0 0 (MQ below (va_Qi (fun (r : Int32) (u : Int32 × Int32 × Int32) => r = res.1 ∧ u = res.2) (fun u t => qW G A (wMod G h0 qDR qLA qLE qCE qFI qCO qCR qSI qSR qMO qBO qPX qPY qPZ qSX dr bo po sx sy sw u.1 u.2.1 u.2.2 DR LA LE CE FI CO CR SI SR MO BO PX PY PZ SX) t) A) ([.ref h0, .int p1, .int p2, .int p3, .int p4, .int p5, .int p6, .int p7] : List Value).toArray s 0 0 A) (F0 m 85 ls []) := by
    intro k176 hk176
    intro k
    induction k with
    | zero =>
      intro a1 a2 a3 a4 a5 a6 a7 a8 a9 a10 a11 a12 a13 a14 a15 a16 mtx mty mtz H locs ls hF hP hD hS hl
      rw [LX9_gone_85] at hF
      cases hF
    | succ k ih =>
      intro a1 a2 a3 a4 a5 a6 a7 a8 a9 a10 a11 a12 a13 a14 a15 a16 mtx mty mtz H locs ls hF hP hD hS hl
      rw [LX9_gone_85] at hF
      refine lv_iload hx hb dX9_gone_85 (lv_at hl 16 rfl) ?_
      refine lv_iload hx hb dX9_gone_87 (lv_at hl 13 rfl) ?_
      refine lv_icmp_gt (tgt := 176) hx hb dX9_gone_89 (by decide) (fun c_9 => ?_) (fun c_9 => ?_)
      · replace hF := it_p c_9 hF
        exact hk176 a1 a2 a3 a4 a5 a6 a7 a8 a9 a10 a11 a12 a13 a14 a15 mtx mty mtz _ _ _ hF hP hD hS (lv_sub hl [0, 1, 2, 3, 4, 5, 6, 7, 8, 9, 10, 11, 12, 13, 14, 15] rfl)
      · replace hF := it_n c_9 hF
        refine lv_aload_n hx hb dX9_gone_92 rfl (lv_at hl 0 rfl) ?_
        refine lv_iload_n hx hb dX9_gone_93 rfl (lv_at hl 1 rfl) ?_
        refine lv_iload hx hb dX9_gone_94 (lv_at hl 14 rfl) ?_
        refine lv_i2l hx hb dX9_gone_96 rfl ?_
        refine lv_iload hx hb dX9_gone_97 (lv_at hl 15 rfl) ?_
        refine lv_i2l hx hb dX9_gone_99 rfl ?_
        refine lv_iload hx hb dX9_gone_100 (lv_at hl 16 rfl) ?_
        refine lv_i2l hx hb dX9_gone_102 rfl ?_
        refine lv_iload_n hx hb dX9_gone_103 rfl (lv_at hl 2 rfl) ?_
        refine lv_i2l hx hb dX9_gone_104 rfl ?_
        obtain ⟨v_10, hv_10, hF⟩ := bd_s hF
        refine ro_ie (va_runV (As := [.int a1, .long a14.toInt64, .long a15.toInt64, .long a16.toInt64, .long a2.toInt64]) (rest := []) ⟨hx, hb, hml, hown, hts⟩ (kX9_where l G h0 qDR qLA qLE qCE qFI qCO qCR qSI qSR qMO qBO qPX qPY qPZ qSX dr bo po sx sy sw mtx mty mtz DR LA LE CE FI CO CR SI SR MO BO PX PY PZ SX a1 a14.toInt64 a15.toInt64 a16.toInt64 a2.toInt64 v_10 hv_10) (cwV 5 hts gX9_gone_X9_where rfl rfl rfl (by decide +kernel) ⟨Nat.le_of_ble_eq_true rfl, Nat.le_of_ble_eq_true rfl⟩) (pvR (q0 := 0) 9 hK (hP.sub (ws' := (wMod G h0 qDR qLA qLE qCE qFI qCO qCR qSI qSR qMO qBO qPX qPY qPZ qSX dr bo po sx sy sw mtx mty mtz DR LA LE CE FI CO CR SI SR MO BO PX PY PZ SX)) [0, 1, 2, 3, 4, 5, 6, 7, 8, 9, 10, 11, 12, 13, 14, 15] rfl) rfl rfl) rfl rfl hl.1 rfl (lv_room (Nat.le_of_ble_eq_true rfl)) dX9_gone_105 ⟨Nat.le_of_ble_eq_true rfl, Nat.le_of_ble_eq_true rfl⟩) ?_
        refine lv_if_le (tgt := 170) hx hb dX9_gone_108 (by decide) (fun c_11 => ?_) (fun c_11 => ?_)
        · replace hF := it_p c_11 hF
          exact hJ170 _ ih _ hk176 a1 a2 a3 a4 a5 a6 a7 a8 a9 a10 a11 a12 a13 a14 a15 a16 mtx mty mtz _ _ _ hF hP hD hS (lv_sub hl [0, 1, 2, 3, 4, 5, 6, 7, 8, 9, 10, 11, 12, 13, 14, 15, 16] rfl)
        · replace hF := it_n c_11 hF
          refine lv_iload hx hb dX9_gone_111 (lv_at hl 4 rfl) ?_
          refine lv_if_eq (tgt := 140) hx hb dX9_gone_113 (by decide) (fun c_12 => ?_) (fun c_12 => ?_)
          · replace hF := it_p c_12 hF
            refine lv_iload hx hb dX9_gone_140 (lv_at hl 8 rfl) ?_
            refine lv_iload_n hx hb dX9_gone_142 rfl (lv_at hl 3 rfl) ?_
            refine lv_icmp_ne (tgt := 167) hx hb dX9_gone_143 (by decide) (fun c_13 => ?_) (fun c_13 => ?_)
            · replace hF := it_n c_13 hF
              exact hJ167 _ ih _ hk176 a1 a2 a3 a4 a5 a6 a7 a8 a9 a10 a11 a12 a13 a14 a15 a16 mtx mty mtz _ _ _ hF hP hD hS (lv_sub hl [0, 1, 2, 3, 4, 5, 6, 7, 8, 9, 10, 11, 12, 13, 14, 15, 16] rfl)
            · replace hF := it_p c_13 hF
              exact hJ146 a8 a14 a15 a16 mtx mty mtz _ _ _ hF hP hD hS (lv_sub hl [0, 8, 14, 15, 16] rfl)
          · replace hF := it_n c_12 hF
            refine lv_iload hx hb dX9_gone_116 (lv_at hl 14 rfl) ?_
            refine lv_iload hx hb dX9_gone_118 (lv_at hl 5 rfl) ?_
            refine lv_icmp_ne (tgt := 167) hx hb dX9_gone_120 (by decide) (fun c_14 => ?_) (fun c_14 => ?_)
            · replace hF := it_n c_14 hF
              exact hJ167 _ ih _ hk176 a1 a2 a3 a4 a5 a6 a7 a8 a9 a10 a11 a12 a13 a14 a15 a16 mtx mty mtz _ _ _ hF hP hD hS (lv_sub hl [0, 1, 2, 3, 4, 5, 6, 7, 8, 9, 10, 11, 12, 13, 14, 15, 16] rfl)
            · replace hF := it_p c_14 hF
              refine lv_iload hx hb dX9_gone_123 (lv_at hl 15 rfl) ?_
              refine lv_iload hx hb dX9_gone_125 (lv_at hl 6 rfl) ?_
              refine lv_icmp_ne (tgt := 167) hx hb dX9_gone_127 (by decide) (fun c_15 => ?_) (fun c_15 => ?_)
              · replace hF := it_n c_15 hF
                exact hJ167 _ ih _ hk176 a1 a2 a3 a4 a5 a6 a7 a8 a9 a10 a11 a12 a13 a14 a15 a16 mtx mty mtz _ _ _ hF hP hD hS (lv_sub hl [0, 1, 2, 3, 4, 5, 6, 7, 8, 9, 10, 11, 12, 13, 14, 15, 16] rfl)
              · replace hF := it_p c_15 hF
                refine lv_iload hx hb dX9_gone_130 (lv_at hl 16 rfl) ?_
                refine lv_iload hx hb dX9_gone_132 (lv_at hl 7 rfl) ?_
                refine lv_icmp_ne (tgt := 167) hx hb dX9_gone_134 (by decide) (fun c_16 => ?_) (fun c_16 => ?_)
                · replace hF := it_n c_16 hF
                  exact hJ167 _ ih _ hk176 a1 a2 a3 a4 a5 a6 a7 a8 a9 a10 a11 a12 a13 a14 a15 a16 mtx mty mtz _ _ _ hF hP hD hS (lv_sub hl [0, 1, 2, 3, 4, 5, 6, 7, 8, 9, 10, 11, 12, 13, 14, 15, 16] rfl)
                · replace hF := it_p c_16 hF
                  refine lv_goto (tgt := 146) hx hb dX9_gone_137 (by decide) ?_
                  exact hJ146 a8 a14 a15 a16 mtx mty mtz _ _ _ hF hP hD hS (lv_sub hl [0, 8, 14, 15, 16] rfl)
  have hL74 : ∀ (k182 : Int32 → Int32 → Int32 → Int32 → Int32 → Int32 → Int32 → Int32 → Int32 → Int32 → Int32 → Int32 → Int32 → Int32 → Int32 → Int32 → Int32 → Option (Int32 × Int32 × Int32 × Int32)), (∀ (a1 : Int32) (a2 : Int32) (a3 : Int32) (a4 : Int32) (a5 : Int32) (a6 : Int32) (a7 : Int32) (a8 : Int32) (a9 : Int32) (a10 : Int32) (a11 : Int32) (a12 : Int32) (a13 : Int32) (a14 : Int32) (mtx : Int32) (mty : Int32) (mtz : Int32) (H : Heap) (locs : List Loc) (ls : Array Slot), k182 a1 a2 a3 a4 a5 a6 a7 a8 a9 a10 a11 a12 a13 a14 mtx mty mtz = some res → va_P (gD G) vwCl (wMod G h0 qDR qLA qLE qCE qFI qCO qCR qSI qSR qMO qBO qPX qPY qPZ qSX dr bo po sx sy sw mtx mty mtz DR LA LE CE FI CO CR SI SR MO BO PX PY PZ SX) H → va_D A (wMod G h0 qDR qLA qLE qCE qFI qCO qCR qSI qSR qMO qBO qPX qPY qPZ qSX dr bo po sx sy sw mtx mty mtz DR LA LE CE FI CO CR SI SR MO BO PX PY PZ SX) → va_S A s.heap H locs → lv_has ls 17 [(0, .ref h0), (1, .int a1), (2, .int a2), (3, .int a3), (4, .int a4), (5, .int a5), (6, .int a6), (7, .int a7), (8, .int a8), (9, .int a9), (10, .int a10), (11, .int a11), (12, .int a12), (13, .int a13), (14, .int a14)] → W p l e (headSpec wsX9_gone rX9_gone).room s m ([.ref h0, .int p1, .int p2, .int p3, .int p4, .int p5, .int p6, .int p7] : List Value).toArray below meth c H locs 0 0 (MQ below (va_Qi (fun (r : Int32) (u : Int32 × Int32 × Int32) => r = res.1 ∧ u = res.2) (fun u t => qW G A (wMod G h0 qDR qLA qLE qCE qFI qCO qCR qSI qSR qMO qBO qPX qPY qPZ qSX dr bo po sx sy sw u.1 u.2.1 u.2.2 DR LA LE CE FI CO CR SI SR MO BO PX PY PZ SX) t) A) ([.ref h0, .int p1, .int p2, .int p3, .int p4, .int p5, .int p6, .int p7] : List Value).toArray s 0 0 A) (F0 m 182 ls [])) → ∀ (k : Nat), ∀ (a1 : Int32) (a2 : Int32) (a3 : Int32) (a4 : Int32) (a5 : Int32) (a6 : Int32) (a7 : Int32) (a8 : Int32) (a9 : Int32) (a10 : Int32) (a11 : Int32) (a12 : Int32) (a13 : Int32) (a14 : Int32) (a15 : Int32) (mtx : Int32) (mty : Int32) (mtz : Int32) (H : Heap) (locs : List Loc) (ls : Array Slot), LX9_gone_74 FI CO CR SI SR BO k182 k a1 a2 a3 a4 a5 a6 a7 a8 a9 a10 a11 a12 a13 a14 a15 mtx mty mtz = some res → va_P (gD G) vwCl (wMod G h0 qDR qLA qLE qCE qFI qCO qCR qSI qSR qMO qBO qPX qPY qPZ qSX dr bo po sx sy sw mtx mty mtz DR LA LE CE FI CO CR SI SR MO BO PX PY PZ SX) H → va_D A (wMod G h0 qDR qLA qLE qCE qFI qCO qCR qSI qSR qMO qBO qPX qPY qPZ qSX dr bo po sx sy sw mtx mty mtz DR LA LE CE FI CO CR SI SR MO BO PX PY PZ SX) → va_S A s.heap H locs → lv_has ls 17 [(0, .ref h0), (1, .int a1), (2, .int a2), (3, .int a3), (4, .int a4), (5, .int a5), (6, .int a6), (7, .int a7), (8, .int a8), (9, .int a9), (10, .int a10), (11, .int a11), (12, .int a12), (13, .int a13), (14, .int a14), (15, .int a15)] → W p l e (headSpec wsX9_gone rX9_gone).room s m ([.ref h0, .int p1, .int p2, .int p3, .int p4, .int p5, .int p6, .int p7] : List Value).toArray below meth c H locs 0 0 (MQ below (va_Qi (fun (r : Int32) (u : Int32 × Int32 × Int32) => r = res.1 ∧ u = res.2) (fun u t => qW G A (wMod G h0 qDR qLA qLE qCE qFI qCO qCR qSI qSR qMO qBO qPX qPY qPZ qSX dr bo po sx sy sw u.1 u.2.1 u.2.2 DR LA LE CE FI CO CR SI SR MO BO PX PY PZ SX) t) A) ([.ref h0, .int p1, .int p2, .int p3, .int p4, .int p5, .int p6, .int p7] : List Value).toArray s 0 0 A) (F0 m 74 ls []) := by
    intro k182 hk182
    intro k
    induction k with
    | zero =>
      intro a1 a2 a3 a4 a5 a6 a7 a8 a9 a10 a11 a12 a13 a14 a15 mtx mty mtz H locs ls hF hP hD hS hl
      rw [LX9_gone_74] at hF
      cases hF
    | succ k ih =>
      intro a1 a2 a3 a4 a5 a6 a7 a8 a9 a10 a11 a12 a13 a14 a15 mtx mty mtz H locs ls hF hP hD hS hl
      rw [LX9_gone_74] at hF
      refine lv_iload hx hb dX9_gone_74 (lv_at hl 15 rfl) ?_
      refine lv_iload hx hb dX9_gone_76 (lv_at hl 12 rfl) ?_
      refine lv_icmp_gt (tgt := 182) hx hb dX9_gone_78 (by decide) (fun c_8 => ?_) (fun c_8 => ?_)
      · replace hF := it_p c_8 hF
        exact hk182 a1 a2 a3 a4 a5 a6 a7 a8 a9 a10 a11 a12 a13 a14 mtx mty mtz _ _ _ hF hP hD hS (lv_sub hl [0, 1, 2, 3, 4, 5, 6, 7, 8, 9, 10, 11, 12, 13, 14] rfl)
      · replace hF := it_n c_8 hF
        refine lv_iload hx hb dX9_gone_81 (lv_at hl 10 rfl) ?_
        refine lv_istore (lv' := [(16, .int a10), (0, .ref h0), (1, .int a1), (2, .int a2), (3, .int a3), (4, .int a4), (5, .int a5), (6, .int a6), (7, .int a7), (8, .int a8), (9, .int a9), (10, .int a10), (11, .int a11), (12, .int a12), (13, .int a13), (14, .int a14), (15, .int a15)]) hx hb dX9_gone_83 hl (by decide) rfl (fun ls hl => ?_)
        refine hL85 _ ?_ FU a1 a2 a3 a4 a5 a6 a7 a8 a9 a10 a11 a12 a13 a14 a15 a10 mtx mty mtz _ _ _ hF hP hD hS (lv_sub hl [1, 2, 3, 4, 5, 6, 7, 8, 9, 10, 11, 12, 13, 14, 15, 16, 0] rfl)
        · intro a1 a2 a3 a4 a5 a6 a7 a8 a9 a10 a11 a12 a13 a14 a15 mtx mty mtz H locs ls hF hP hD hS hl
          refine lv_iinc (v := a15 + 1) (lv' := [(15, .int (a15 + 1)), (0, .ref h0), (1, .int a1), (2, .int a2), (3, .int a3), (4, .int a4), (5, .int a5), (6, .int a6), (7, .int a7), (8, .int a8), (9, .int a9), (10, .int a10), (11, .int a11), (12, .int a12), (13, .int a13), (14, .int a14)]) hx hb dX9_gone_176 hl (k := 15) rfl rfl (by decide) rfl (fun ls hl => ?_)
          refine lv_goto (tgt := 74) hx hb dX9_gone_179 (by decide) ?_
          exact ih a1 a2 a3 a4 a5 a6 a7 a8 a9 a10 a11 a12 a13 a14 (a15 + 1) mtx mty mtz _ _ _ hF hP hD hS (lv_sub hl [1, 2, 3, 4, 5, 6, 7, 8, 9, 10, 11, 12, 13, 14, 15, 0] rfl)
  have hL63 : ∀ (k : Nat), ∀ (a1 : Int32) (a2 : Int32) (a3 : Int32) (a4 : Int32) (a5 : Int32) (a6 : Int32) (a7 : Int32) (a8 : Int32) (a9 : Int32) (a10 : Int32) (a11 : Int32) (a12 : Int32) (a13 : Int32) (a14 : Int32) (mtx : Int32) (mty : Int32) (mtz : Int32) (H : Heap) (locs : List Loc) (ls : Array Slot), LX9_gone_63 FI CO CR SI SR BO k a1 a2 a3 a4 a5 a6 a7 a8 a9 a10 a11 a12 a13 a14 mtx mty mtz = some res → va_P (gD G) vwCl (wMod G h0 qDR qLA qLE qCE qFI qCO qCR qSI qSR qMO qBO qPX qPY qPZ qSX dr bo po sx sy sw mtx mty mtz DR LA LE CE FI CO CR SI SR MO BO PX PY PZ SX) H → va_D A (wMod G h0 qDR qLA qLE qCE qFI qCO qCR qSI qSR qMO qBO qPX qPY qPZ qSX dr bo po sx sy sw mtx mty mtz DR LA LE CE FI CO CR SI SR MO BO PX PY PZ SX) → va_S A s.heap H locs → lv_has ls 17 [(0, .ref h0), (1, .int a1), (2, .int a2), (3, .int a3), (4, .int a4), (5, .int a5), (6, .int a6), (7, .int a7), (8, .int a8), (9, .int a9), (10, .int a10), (11, .int a11), (12, .int a12), (13, .int a13), (14, .int a14)] → W p l e (headSpec wsX9_gone rX9_gone).room s m ([.ref h0, .int p1, .int p2, .int p3, .int p4, .int p5, .int p6, .int p7] : List Value).toArray below meth c H locs 0 0 (MQ below (va_Qi (fun (r : Int32) (u : Int32 × Int32 × Int32) => r = res.1 ∧ u = res.2) (fun u t => qW G A (wMod G h0 qDR qLA qLE qCE qFI qCO qCR qSI qSR qMO qBO qPX qPY qPZ qSX dr bo po sx sy sw u.1 u.2.1 u.2.2 DR LA LE CE FI CO CR SI SR MO BO PX PY PZ SX) t) A) ([.ref h0, .int p1, .int p2, .int p3, .int p4, .int p5, .int p6, .int p7] : List Value).toArray s 0 0 A) (F0 m 63 ls []) := by
    intro k
    induction k with
    | zero =>
      intro a1 a2 a3 a4 a5 a6 a7 a8 a9 a10 a11 a12 a13 a14 mtx mty mtz H locs ls hF hP hD hS hl
      rw [LX9_gone_63] at hF
      cases hF
    | succ k ih =>
      intro a1 a2 a3 a4 a5 a6 a7 a8 a9 a10 a11 a12 a13 a14 mtx mty mtz H locs ls hF hP hD hS hl
      rw [LX9_gone_63] at hF
      refine lv_iload hx hb dX9_gone_63 (lv_at hl 14 rfl) ?_
      refine lv_iload hx hb dX9_gone_65 (lv_at hl 11 rfl) ?_
      refine lv_icmp_gt (tgt := 188) hx hb dX9_gone_67 (by decide) (fun c_7 => ?_) (fun c_7 => ?_)
      · replace hF := it_p c_7 hF
        refine lv_bipush (v := (-4)) hx hb dX9_gone_188 (by decide) ?_
        exact W.iret (v := (-4)) hx hb hr  (fun t ht hW => ⟨⟨(-4), (mtx, mty, mtz), rfl, pr_e hF, qW_mk ht hP hK hW hD⟩, hS.F ht⟩) hS.2.2 dX9_gone_190
      · replace hF := it_n c_7 hF
        refine lv_iload hx hb dX9_gone_70 (lv_at hl 9 rfl) ?_
        refine lv_istore (lv' := [(15, .int a9), (0, .ref h0), (1, .int a1), (2, .int a2), (3, .int a3), (4, .int a4), (5, .int a5), (6, .int a6), (7, .int a7), (8, .int a8), (9, .int a9), (10, .int a10), (11, .int a11), (12, .int a12), (13, .int a13), (14, .int a14)]) hx hb dX9_gone_72 hl (by decide) rfl (fun ls hl => ?_)
        refine hL74 _ ?_ FU a1 a2 a3 a4 a5 a6 a7 a8 a9 a10 a11 a12 a13 a14 a9 mtx mty mtz _ _ _ hF hP hD hS (lv_sub hl [1, 2, 3, 4, 5, 6, 7, 8, 9, 10, 11, 12, 13, 14, 15, 0] rfl)
        · intro a1 a2 a3 a4 a5 a6 a7 a8 a9 a10 a11 a12 a13 a14 mtx mty mtz H locs ls hF hP hD hS hl
          refine lv_iinc (v := a14 + 1) (lv' := [(14, .int (a14 + 1)), (0, .ref h0), (1, .int a1), (2, .int a2), (3, .int a3), (4, .int a4), (5, .int a5), (6, .int a6), (7, .int a7), (8, .int a8), (9, .int a9), (10, .int a10), (11, .int a11), (12, .int a12), (13, .int a13)]) hx hb dX9_gone_182 hl (k := 14) rfl rfl (by decide) rfl (fun ls hl => ?_)
          refine lv_goto (tgt := 63) hx hb dX9_gone_185 (by decide) ?_
          exact ih a1 a2 a3 a4 a5 a6 a7 a8 a9 a10 a11 a12 a13 (a14 + 1) mtx mty mtz _ _ _ hF hP hD hS (lv_sub hl [1, 2, 3, 4, 5, 6, 7, 8, 9, 10, 11, 12, 13, 14, 0] rfl)
  unfold fX9_gone at hF
  refine lv_iconst (v := 0) hx hb dX9_gone_0 (by decide) ?_
  refine lv_istore (lv' := [(8, .int 0), (0, .ref h0), (1, .int p1), (2, .int p2), (3, .int p3), (4, .int p4), (5, .int p5), (6, .int p6), (7, .int p7)]) hx hb dX9_gone_1 hl (by decide) rfl (fun ls hl => ?_)
  refine lv_iload_n hx hb dX9_gone_3 rfl (lv_at hl 3 rfl) ?_
  refine lv_aload_n hx hb dX9_gone_4 rfl (lv_at hl 1 rfl) ?_
  refine lv_iload_n hx hb dX9_gone_5 rfl (lv_at hl 2 rfl) ?_
  refine lv_iconst (v := 1) hx hb dX9_gone_6 (by decide) ?_
  obtain ⟨v_1, hv_1, hF⟩ := bd_s hF
  refine ro_ie (va_runV (As := [.int p1, .int 1]) (rest := [.int p2]) ⟨hx, hb, hml, hown, hts⟩ (kX9_least l G h0 qDR qLA qLE qCE qFI qCO qCR qSI qSR qMO qBO qPX qPY qPZ qSX dr bo po sx sy sw tx ty tz DR LA LE CE FI CO CR SI SR MO BO PX PY PZ SX p1 1 v_1 hv_1) (cwV 2 hts gX9_gone_X9_least rfl rfl rfl (by decide +kernel) ⟨Nat.le_of_ble_eq_true rfl, Nat.le_of_ble_eq_true rfl⟩) (pvR (q0 := 0) 9 hK (hP.sub (ws' := (wMod G h0 qDR qLA qLE qCE qFI qCO qCR qSI qSR qMO qBO qPX qPY qPZ qSX dr bo po sx sy sw tx ty tz DR LA LE CE FI CO CR SI SR MO BO PX PY PZ SX)) [0, 1, 2, 3, 4, 5, 6, 7, 8, 9, 10, 11, 12, 13, 14, 15] rfl) rfl rfl) rfl rfl hl.1 rfl (lv_room (Nat.le_of_ble_eq_true rfl)) dX9_gone_7 ⟨Nat.le_of_ble_eq_true rfl, Nat.le_of_ble_eq_true rfl⟩) ?_
  refine lv_imul hx hb dX9_gone_10 ?_
  refine lv_istore (lv' := [(9, .int (p2 * v_1)), (8, .int 0), (0, .ref h0), (1, .int p1), (2, .int p2), (3, .int p3), (4, .int p4), (5, .int p5), (6, .int p6), (7, .int p7)]) hx hb dX9_gone_11 hl (by decide) rfl (fun ls hl => ?_)
  refine lv_iload_n hx hb dX9_gone_13 rfl (lv_at hl 4 rfl) ?_
  refine lv_aload_n hx hb dX9_gone_14 rfl (lv_at hl 2 rfl) ?_
  refine lv_iload_n hx hb dX9_gone_15 rfl (lv_at hl 3 rfl) ?_
  refine lv_iconst (v := 2) hx hb dX9_gone_16 (by decide) ?_
  obtain ⟨v_2, hv_2, hF⟩ := bd_s hF
  refine ro_ie (va_runV (As := [.int p1, .int 2]) (rest := [.int p2]) ⟨hx, hb, hml, hown, hts⟩ (kX9_least l G h0 qDR qLA qLE qCE qFI qCO qCR qSI qSR qMO qBO qPX qPY qPZ qSX dr bo po sx sy sw tx ty tz DR LA LE CE FI CO CR SI SR MO BO PX PY PZ SX p1 2 v_2 hv_2) (cwV 2 hts gX9_gone_X9_least rfl rfl rfl (by decide +kernel) ⟨Nat.le_of_ble_eq_true rfl, Nat.le_of_ble_eq_true rfl⟩) (pvR (q0 := 0) 9 hK (hP.sub (ws' := (wMod G h0 qDR qLA qLE qCE qFI qCO qCR qSI qSR qMO qBO qPX qPY qPZ qSX dr bo po sx sy sw tx ty tz DR LA LE CE FI CO CR SI SR MO BO PX PY PZ SX)) [0, 1, 2, 3, 4, 5, 6, 7, 8, 9, 10, 11, 12, 13, 14, 15] rfl) rfl rfl) rfl rfl hl.1 rfl (lv_room (Nat.le_of_ble_eq_true rfl)) dX9_gone_17 ⟨Nat.le_of_ble_eq_true rfl, Nat.le_of_ble_eq_true rfl⟩) ?_
  refine lv_imul hx hb dX9_gone_20 ?_
  refine lv_istore (lv' := [(10, .int (p2 * v_2)), (9, .int (p2 * v_1)), (8, .int 0), (0, .ref h0), (1, .int p1), (2, .int p2), (3, .int p3), (4, .int p4), (5, .int p5), (6, .int p6), (7, .int p7)]) hx hb dX9_gone_21 hl (by decide) rfl (fun ls hl => ?_)
  refine lv_iload_n hx hb dX9_gone_23 rfl (lv_at hl 5 rfl) ?_
  refine lv_aload_n hx hb dX9_gone_24 rfl (lv_at hl 3 rfl) ?_
  refine lv_iload_n hx hb dX9_gone_25 rfl (lv_at hl 4 rfl) ?_
  refine lv_iconst (v := 0) hx hb dX9_gone_26 (by decide) ?_
  obtain ⟨v_3, hv_3, hF⟩ := bd_s hF
  refine ro_ie (va_runV (As := [.int p1, .int 0]) (rest := [.int p2]) ⟨hx, hb, hml, hown, hts⟩ (kX9_greatest l G h0 qDR qLA qLE qCE qFI qCO qCR qSI qSR qMO qBO qPX qPY qPZ qSX dr bo po sx sy sw tx ty tz DR LA LE CE FI CO CR SI SR MO BO PX PY PZ SX p1 0 v_3 hv_3) (cwV 2 hts gX9_gone_X9_greatest rfl rfl rfl (by decide +kernel) ⟨Nat.le_of_ble_eq_true rfl, Nat.le_of_ble_eq_true rfl⟩) (pvR (q0 := 0) 9 hK (hP.sub (ws' := (wMod G h0 qDR qLA qLE qCE qFI qCO qCR qSI qSR qMO qBO qPX qPY qPZ qSX dr bo po sx sy sw tx ty tz DR LA LE CE FI CO CR SI SR MO BO PX PY PZ SX)) [0, 1, 2, 3, 4, 5, 6, 7, 8, 9, 10, 11, 12, 13, 14, 15] rfl) rfl rfl) rfl rfl hl.1 rfl (lv_room (Nat.le_of_ble_eq_true rfl)) dX9_gone_27 ⟨Nat.le_of_ble_eq_true rfl, Nat.le_of_ble_eq_true rfl⟩) ?_
  refine lv_imul hx hb dX9_gone_30 ?_
  refine lv_istore (lv' := [(11, .int (p2 * v_3)), (10, .int (p2 * v_2)), (9, .int (p2 * v_1)), (8, .int 0), (0, .ref h0), (1, .int p1), (2, .int p2), (3, .int p3), (4, .int p4), (5, .int p5), (6, .int p6), (7, .int p7)]) hx hb dX9_gone_31 hl (by decide) rfl (fun ls hl => ?_)
  refine lv_iload_n hx hb dX9_gone_33 rfl (lv_at hl 6 rfl) ?_
  refine lv_aload_n hx hb dX9_gone_34 rfl (lv_at hl 4 rfl) ?_
  refine lv_iload_n hx hb dX9_gone_35 rfl (lv_at hl 5 rfl) ?_
  refine lv_iconst (v := 1) hx hb dX9_gone_36 (by decide) ?_
  obtain ⟨v_4, hv_4, hF⟩ := bd_s hF
  refine ro_ie (va_runV (As := [.int p1, .int 1]) (rest := [.int p2]) ⟨hx, hb, hml, hown, hts⟩ (kX9_greatest l G h0 qDR qLA qLE qCE qFI qCO qCR qSI qSR qMO qBO qPX qPY qPZ qSX dr bo po sx sy sw tx ty tz DR LA LE CE FI CO CR SI SR MO BO PX PY PZ SX p1 1 v_4 hv_4) (cwV 2 hts gX9_gone_X9_greatest rfl rfl rfl (by decide +kernel) ⟨Nat.le_of_ble_eq_true rfl, Nat.le_of_ble_eq_true rfl⟩) (pvR (q0 := 0) 9 hK (hP.sub (ws' := (wMod G h0 qDR qLA qLE qCE qFI qCO qCR qSI qSR qMO qBO qPX qPY qPZ qSX dr bo po sx sy sw tx ty tz DR LA LE CE FI CO CR SI SR MO BO PX PY PZ SX)) [0, 1, 2, 3, 4, 5, 6, 7, 8, 9, 10, 11, 12, 13, 14, 15] rfl) rfl rfl) rfl rfl hl.1 rfl (lv_room (Nat.le_of_ble_eq_true rfl)) dX9_gone_37 ⟨Nat.le_of_ble_eq_true rfl, Nat.le_of_ble_eq_true rfl⟩) ?_
  refine lv_imul hx hb dX9_gone_40 ?_
  refine lv_istore (lv' := [(12, .int (p2 * v_4)), (11, .int (p2 * v_3)), (10, .int (p2 * v_2)), (9, .int (p2 * v_1)), (8, .int 0), (0, .ref h0), (1, .int p1), (2, .int p2), (3, .int p3), (4, .int p4), (5, .int p5), (6, .int p6), (7, .int p7)]) hx hb dX9_gone_41 hl (by decide) rfl (fun ls hl => ?_)
  refine lv_iload_n hx hb dX9_gone_43 rfl (lv_at hl 7 rfl) ?_
  refine lv_aload_n hx hb dX9_gone_44 rfl (lv_at hl 5 rfl) ?_
  refine lv_iload_n hx hb dX9_gone_45 rfl (lv_at hl 6 rfl) ?_
  refine lv_iconst (v := 2) hx hb dX9_gone_46 (by decide) ?_
  obtain ⟨v_5, hv_5, hF⟩ := bd_s hF
  refine ro_ie (va_runV (As := [.int p1, .int 2]) (rest := [.int p2]) ⟨hx, hb, hml, hown, hts⟩ (kX9_greatest l G h0 qDR qLA qLE qCE qFI qCO qCR qSI qSR qMO qBO qPX qPY qPZ qSX dr bo po sx sy sw tx ty tz DR LA LE CE FI CO CR SI SR MO BO PX PY PZ SX p1 2 v_5 hv_5) (cwV 2 hts gX9_gone_X9_greatest rfl rfl rfl (by decide +kernel) ⟨Nat.le_of_ble_eq_true rfl, Nat.le_of_ble_eq_true rfl⟩) (pvR (q0 := 0) 9 hK (hP.sub (ws' := (wMod G h0 qDR qLA qLE qCE qFI qCO qCR qSI qSR qMO qBO qPX qPY qPZ qSX dr bo po sx sy sw tx ty tz DR LA LE CE FI CO CR SI SR MO BO PX PY PZ SX)) [0, 1, 2, 3, 4, 5, 6, 7, 8, 9, 10, 11, 12, 13, 14, 15] rfl) rfl rfl) rfl rfl hl.1 rfl (lv_room (Nat.le_of_ble_eq_true rfl)) dX9_gone_47 ⟨Nat.le_of_ble_eq_true rfl, Nat.le_of_ble_eq_true rfl⟩) ?_
  refine lv_imul hx hb dX9_gone_50 ?_
  refine lv_istore (lv' := [(13, .int (p2 * v_5)), (12, .int (p2 * v_4)), (11, .int (p2 * v_3)), (10, .int (p2 * v_2)), (9, .int (p2 * v_1)), (8, .int 0), (0, .ref h0), (1, .int p1), (2, .int p2), (3, .int p3), (4, .int p4), (5, .int p5), (6, .int p6), (7, .int p7)]) hx hb dX9_gone_51 hl (by decide) rfl (fun ls hl => ?_)
  refine lv_iload_n hx hb dX9_gone_53 rfl (lv_at hl 8 rfl) ?_
  refine lv_aload_n hx hb dX9_gone_54 rfl (lv_at hl 6 rfl) ?_
  refine lv_iload_n hx hb dX9_gone_55 rfl (lv_at hl 7 rfl) ?_
  refine lv_iconst (v := 0) hx hb dX9_gone_56 (by decide) ?_
  obtain ⟨v_6, hv_6, hF⟩ := bd_s hF
  refine ro_ie (va_runV (As := [.int p1, .int 0]) (rest := [.int p2]) ⟨hx, hb, hml, hown, hts⟩ (kX9_least l G h0 qDR qLA qLE qCE qFI qCO qCR qSI qSR qMO qBO qPX qPY qPZ qSX dr bo po sx sy sw tx ty tz DR LA LE CE FI CO CR SI SR MO BO PX PY PZ SX p1 0 v_6 hv_6) (cwV 2 hts gX9_gone_X9_least rfl rfl rfl (by decide +kernel) ⟨Nat.le_of_ble_eq_true rfl, Nat.le_of_ble_eq_true rfl⟩) (pvR (q0 := 0) 9 hK (hP.sub (ws' := (wMod G h0 qDR qLA qLE qCE qFI qCO qCR qSI qSR qMO qBO qPX qPY qPZ qSX dr bo po sx sy sw tx ty tz DR LA LE CE FI CO CR SI SR MO BO PX PY PZ SX)) [0, 1, 2, 3, 4, 5, 6, 7, 8, 9, 10, 11, 12, 13, 14, 15] rfl) rfl rfl) rfl rfl hl.1 rfl (lv_room (Nat.le_of_ble_eq_true rfl)) dX9_gone_57 ⟨Nat.le_of_ble_eq_true rfl, Nat.le_of_ble_eq_true rfl⟩) ?_
  refine lv_imul hx hb dX9_gone_60 ?_
  refine lv_istore (lv' := [(14, .int (p2 * v_6)), (13, .int (p2 * v_5)), (12, .int (p2 * v_4)), (11, .int (p2 * v_3)), (10, .int (p2 * v_2)), (9, .int (p2 * v_1)), (8, .int 0), (0, .ref h0), (1, .int p1), (2, .int p2), (3, .int p3), (4, .int p4), (5, .int p5), (6, .int p6), (7, .int p7)]) hx hb dX9_gone_61 hl (by decide) rfl (fun ls hl => ?_)
  exact hL63 FU p1 p2 p3 p4 p5 p6 p7 0 (p2 * v_1) (p2 * v_2) (p2 * v_3) (p2 * v_4) (p2 * v_5) (p2 * v_6) tx ty tz _ _ _ hF hP hD hS (lv_sub hl [7, 8, 9, 10, 11, 12, 13, 14, 6, 5, 4, 3, 2, 1, 0] rfl)
def fX9_point_ (bo : Int32) (tx : Int32) (ty : Int32) (tz : Int32) (FI : Nat → Int32) (CO : Nat → Int32) (CR : Nat → Int32) (SI : Nat → Int32) (SR : Nat → Int32) (BO : Nat → Int32) (p1 : Int32) (p2 : Int32) (p3 : Int32) (p4 : Int32) : Option (Int32 × Int32 × Int32 × Int32) :=
  (bd (fX9_is bo p1) (fun v_1 => (if v_1 = 0 then (some (10000, tx, ty, tz)) else (bd (fX9_in p2.toInt64 1 5) (fun v_4 => (if v_4 = 0 then (some (10000, tx, ty, tz)) else (if p3 < 0 then (some (10000, tx, ty, tz)) else (bd (fX9_in p4.toInt64 0 2) (fun v_8 => (if v_8 = 0 then (some (10000, tx, ty, tz)) else (bd (fX9_gone tx ty tz FI CO CR SI SR BO p1 p2 p3 0 0 0 0) (fun v_11 => (if v_11.1 = (-4) then (some (10000, v_11.2.1, v_11.2.2.1, v_11.2.2.2)) else (if p4 = 0 then (some (v_11.2.1, v_11.2.1, v_11.2.2.1, v_11.2.2.2)) else (if p4 = 1 then (some (v_11.2.2.1, v_11.2.1, v_11.2.2.1, v_11.2.2.2)) else (some (v_11.2.2.2, v_11.2.1, v_11.2.2.1, v_11.2.2.2)))))))))))))))))
abbrev rX9_point_ : Room := { frames := 2, cells := 0, slots := 0, locals := 83 }
set_option maxHeartbeats 40000000 in
set_option maxRecDepth 100000 in
theorem kX9_point_ (l : Launch) (G : GT) (h0 qDR qLA qLE qCE qFI qCO qCR qSI qSR qMO qBO qPX qPY qPZ qSX : Nat) (sz : Nat) (dr : Int32) (bo : Int32) (po : Int32) (sx : Int32) (sy : Int32) (sw : Int32) (tx : Int32) (ty : Int32) (tz : Int32) (DR : Nat → Int32) (LA : Nat → Int32) (LE : Nat → Int32) (CE : Nat → Int64) (FI : Nat → Int32) (CO : Nat → Int32) (CR : Nat → Int32) (SI : Nat → Int32) (SR : Nat → Int32) (MO : Nat → Int32) (BO : Nat → Int32) (PX : Nat → Int32) (PY : Nat → Int32) (PZ : Nat → Int32) (SX : Nat → Int32) (p1 : Int32) (p2 : Int32) (p3 : Int32) (p4 : Int32) (res : Int32 × Int32 × Int32 × Int32) (hF : fX9_point_ bo tx ty tz FI CO CR SI SR BO p1 p2 p3 p4 = some res) : Met l yX9_point_ wsX9_point_ rX9_point_ (va_Pc [.ref h0, .int p1, .int p2, .int p3, .int p4] (pW G sz (wMod G h0 qDR qLA qLE qCE qFI qCO qCR qSI qSR qMO qBO qPX qPY qPZ qSX dr bo po sx sy sw tx ty tz DR LA LE CE FI CO CR SI SR MO BO PX PY PZ SX))) (va_Qi (fun (r : Int32) (u : Int32 × Int32 × Int32) => r = res.1 ∧ u = res.2) (fun u t => qW G (va_A (wMod G h0 qDR qLA qLE qCE qFI qCO qCR qSI qSR qMO qBO qPX qPY qPZ qSX dr bo po sx sy sw tx ty tz DR LA LE CE FI CO CR SI SR MO BO PX PY PZ SX) sz) (wMod G h0 qDR qLA qLE qCE qFI qCO qCR qSI qSR qMO qBO qPX qPY qPZ qSX dr bo po sx sy sw u.1 u.2.1 u.2.2 DR LA LE CE FI CO CR SI SR MO BO PX PY PZ SX) t) (va_A (wMod G h0 qDR qLA qLE qCE qFI qCO qCR qSI qSR qMO qBO qPX qPY qPZ qSX dr bo po sx sy sw tx ty tz DR LA LE CE FI CO CR SI SR MO BO PX PY PZ SX) sz)) 0 0 (va_A (wMod G h0 qDR qLA qLE qCE qFI qCO qCR qSI qSR qMO qBO qPX qPY qPZ qSX dr bo po sx sy sw tx ty tz DR LA LE CE FI CO CR SI SR MO BO PX PY PZ SX) sz) := by
  refine Met.ofW (cc := cX9_point_) (maxL := 5) (ret := (some .int)) (by decide) rfl ?_
  intro p e s m args below meth c s₁ B hml hv
  obtain ⟨rfl, hsz, hP, hK, hD0⟩ := hv
  have hx := B.exec
  have hb := B.bytes
  have hr := B.returns
  have hts := atoms_spec (ws := wsX9_point_) B.pre
  have hown : s.vm.findClass RX9 = some m.cls := findClass_of_methodNamed B.named
  have hlocks := B.notSynchronized
  subst hsz
  have hD := hD0.self (sz := s.heap.size)
  generalize hAe : va_A (wMod G h0 qDR qLA qLE qCE qFI qCO qCR qSI qSR qMO qBO qPX qPY qPZ qSX dr bo po sx sy sw tx ty tz DR LA LE CE FI CO CR SI SR MO BO PX PY PZ SX) s.heap.size = A at hD ⊢
  have hA : ∀ q : Nat, s.heap.size ≤ q → A q := fun q h => by rw [← hAe]; exact Or.inr h
  have hS : va_S A s.heap s.heap [] := va_S.rf
  have hcn58 := hts (.constantLong RX9 58 (5)) (by decide +kernel)
  have hcn166 := hts (.constantLong RX9 166 (2)) (by decide +kernel)
  have hin9 : ∀ w ∈ u_ws RX9 TX9 24, w ∈ wsX9_point_ := by decide +kernel
  have hfl197 := hts (.fieldLink RX9 197 "SwellBodiesModel" "atZ" "I") (by decide +kernel)
  have hfl194 := hts (.fieldLink RX9 194 "SwellBodiesModel" "atY" "I") (by decide +kernel)
  have hfl191 := hts (.fieldLink RX9 191 "SwellBodiesModel" "atX" "I") (by decide +kernel)
  have hl := lv_entry ([.ref h0, .int p1, .int p2, .int p3, .int p4]) (n := 5) (Nat.le_of_ble_eq_true rfl)
  rw [lg_entry_eq]
  generalize (lg_sl ([.ref h0, .int p1, .int p2, .int p3, .int p4]) ++ List.replicate (5 - (lg_sl ([.ref h0, .int p1, .int p2, .int p3, .int p4])).length) Slot.unset).toArray = ls at hl ⊢
  have hl : lv_has ls 5 [(0, .ref h0), (1, .int p1), (2, .int p2), (3, .int p3), (4, .int p4)] := hl
  unfold fX9_point_ at hF
  refine lv_aload_n hx hb dX9_point__0 rfl (lv_at hl 0 rfl) ?_
  refine lv_iload_n hx hb dX9_point__1 rfl (lv_at hl 1 rfl) ?_
  obtain ⟨v_1, hv_1, hF⟩ := bd_s hF
  refine ro_ze (va_runV (As := [.int p1]) (rest := []) ⟨hx, hb, hml, hown, hts⟩ (kX9_is l G h0 qDR qLA qLE qCE qFI qCO qCR qSI qSR qMO qBO qPX qPY qPZ qSX dr bo po sx sy sw tx ty tz DR LA LE CE FI CO CR SI SR MO BO PX PY PZ SX p1 v_1 hv_1) (cwV 1 hts gX9_point__X9_is rfl rfl rfl (by decide +kernel) ⟨Nat.le_of_ble_eq_true rfl, Nat.le_of_ble_eq_true rfl⟩) (pvR (q0 := 0) 9 hK (hP.sub (ws' := (wMod G h0 qDR qLA qLE qCE qFI qCO qCR qSI qSR qMO qBO qPX qPY qPZ qSX dr bo po sx sy sw tx ty tz DR LA LE CE FI CO CR SI SR MO BO PX PY PZ SX)) [0, 1, 2, 3, 4, 5, 6, 7, 8, 9, 10, 11, 12, 13, 14, 15] rfl) rfl rfl) rfl rfl hl.1 rfl (lv_room (Nat.le_of_ble_eq_true rfl)) dX9_point__2 ⟨Nat.le_of_ble_eq_true rfl, Nat.le_of_ble_eq_true rfl⟩) (fun hb_2 => ?_)
  refine lv_if_eq (tgt := 53) hx hb dX9_point__5 (by decide) (fun c_3 => ?_) (fun c_3 => ?_)
  · replace hF := it_p c_3 hF
    refine lv_sipush (v := 10000) hx hb dX9_point__53 (by decide) ?_
    exact W.iret (v := 10000) hx hb hr  (fun t ht hW => ⟨⟨10000, (tx, ty, tz), rfl, pr_e hF, qW_mk ht hP hK hW hD⟩, hS.F ht⟩) hS.2.2 dX9_point__56
  · replace hF := it_n c_3 hF
    refine lv_iload_n hx hb dX9_point__8 rfl (lv_at hl 2 rfl) ?_
    refine lv_i2l hx hb dX9_point__9 rfl ?_
    refine lv_lconst (v := 1) hx hb dX9_point__10 (by decide) ?_
    refine lv_ldc2 (v := 5) hx hb hown hcn58 dX9_point__11 ?_
    obtain ⟨v_4, hv_4, hF⟩ := bd_s hF
    refine ro_ze (va_runS (As := [.long p2.toInt64, .long 1, .long 5]) (rest := []) ⟨hx, hb, hml, hown, hts⟩ (kX9_in l G p2.toInt64 1 5 v_4 hv_4) (va_cwS 3 hts gX9_point__X9_in rfl rfl rfl (by decide +kernel) ⟨Nat.le_of_ble_eq_true rfl, Nat.le_of_ble_eq_true rfl⟩) (psR hK (hP.sub (ws' := ([] : va_W)) [] rfl)) rfl rfl hl.1 rfl (lv_room (Nat.le_of_ble_eq_true rfl)) dX9_point__14 ⟨Nat.le_of_ble_eq_true rfl, Nat.le_of_ble_eq_true rfl⟩) (fun hb_5 => ?_)
    refine lv_if_eq (tgt := 53) hx hb dX9_point__17 (by decide) (fun c_6 => ?_) (fun c_6 => ?_)
    · replace hF := it_p c_6 hF
      refine lv_sipush (v := 10000) hx hb dX9_point__53 (by decide) ?_
      exact W.iret (v := 10000) hx hb hr  (fun t ht hW => ⟨⟨10000, (tx, ty, tz), rfl, pr_e hF, qW_mk ht hP hK hW hD⟩, hS.F ht⟩) hS.2.2 dX9_point__56
    · replace hF := it_n c_6 hF
      refine lv_iload_n hx hb dX9_point__20 rfl (lv_at hl 3 rfl) ?_
      refine lv_if_lt (tgt := 53) hx hb dX9_point__21 (by decide) (fun c_7 => ?_) (fun c_7 => ?_)
      · replace hF := it_p c_7 hF
        refine lv_sipush (v := 10000) hx hb dX9_point__53 (by decide) ?_
        exact W.iret (v := 10000) hx hb hr  (fun t ht hW => ⟨⟨10000, (tx, ty, tz), rfl, pr_e hF, qW_mk ht hP hK hW hD⟩, hS.F ht⟩) hS.2.2 dX9_point__56
      · replace hF := it_n c_7 hF
        refine lv_iload hx hb dX9_point__24 (lv_at hl 4 rfl) ?_
        refine lv_i2l hx hb dX9_point__26 rfl ?_
        refine lv_lconst (v := 0) hx hb dX9_point__27 (by decide) ?_
        refine lv_ldc2 (v := 2) hx hb hown hcn166 dX9_point__28 ?_
        obtain ⟨v_8, hv_8, hF⟩ := bd_s hF
        refine ro_ze (va_runS (As := [.long p4.toInt64, .long 0, .long 2]) (rest := []) ⟨hx, hb, hml, hown, hts⟩ (kX9_in l G p4.toInt64 0 2 v_8 hv_8) (va_cwS 3 hts gX9_point__X9_in rfl rfl rfl (by decide +kernel) ⟨Nat.le_of_ble_eq_true rfl, Nat.le_of_ble_eq_true rfl⟩) (psR hK (hP.sub (ws' := ([] : va_W)) [] rfl)) rfl rfl hl.1 rfl (lv_room (Nat.le_of_ble_eq_true rfl)) dX9_point__31 ⟨Nat.le_of_ble_eq_true rfl, Nat.le_of_ble_eq_true rfl⟩) (fun hb_9 => ?_)
        refine lv_if_eq (tgt := 53) hx hb dX9_point__34 (by decide) (fun c_10 => ?_) (fun c_10 => ?_)
        · replace hF := it_p c_10 hF
          refine lv_sipush (v := 10000) hx hb dX9_point__53 (by decide) ?_
          exact W.iret (v := 10000) hx hb hr  (fun t ht hW => ⟨⟨10000, (tx, ty, tz), rfl, pr_e hF, qW_mk ht hP hK hW hD⟩, hS.F ht⟩) hS.2.2 dX9_point__56
        · replace hF := it_n c_10 hF
          refine lv_aload_n hx hb dX9_point__37 rfl (lv_at hl 0 rfl) ?_
          refine lv_iload_n hx hb dX9_point__38 rfl (lv_at hl 1 rfl) ?_
          refine lv_iload_n hx hb dX9_point__39 rfl (lv_at hl 2 rfl) ?_
          refine lv_iload_n hx hb dX9_point__40 rfl (lv_at hl 3 rfl) ?_
          refine lv_iconst (v := 0) hx hb dX9_point__41 (by decide) ?_
          refine lv_iconst (v := 0) hx hb dX9_point__42 (by decide) ?_
          refine lv_iconst (v := 0) hx hb dX9_point__43 (by decide) ?_
          refine lv_iconst (v := 0) hx hb dX9_point__44 (by decide) ?_
          obtain ⟨v_11, hv_11, hF⟩ := bd_s hF
          refine rw_ie (wf := (fun (u : Int32 × Int32 × Int32) => (wMod G h0 qDR qLA qLE qCE qFI qCO qCR qSI qSR qMO qBO qPX qPY qPZ qSX dr bo po sx sy sw u.1 u.2.1 u.2.2 DR LA LE CE FI CO CR SI SR MO BO PX PY PZ SX))) (wr := []) (va_runV (As := [.int p1, .int p2, .int p3, .int 0, .int 0, .int 0, .int 0]) (rest := []) ⟨hx, hb, hml, hown, hts⟩ (kX9_gone l G h0 qDR qLA qLE qCE qFI qCO qCR qSI qSR qMO qBO qPX qPY qPZ qSX s.heap.size dr bo po sx sy sw tx ty tz DR LA LE CE FI CO CR SI SR MO BO PX PY PZ SX p1 p2 p3 0 0 0 0 v_11 hv_11) (cwV 7 hts gX9_point__X9_gone rfl rfl rfl (by decide +kernel) ⟨Nat.le_of_ble_eq_true rfl, Nat.le_of_ble_eq_true rfl⟩) (pvW (q0 := 0) 9 hK (hP.sub (ws' := (wMod G h0 qDR qLA qLE qCE qFI qCO qCR qSI qSR qMO qBO qPX qPY qPZ qSX dr bo po sx sy sw tx ty tz DR LA LE CE FI CO CR SI SR MO BO PX PY PZ SX)) [0, 1, 2, 3, 4, 5, 6, 7, 8, 9, 10, 11, 12, 13, 14, 15] rfl) (hD.sub (ws' := (wMod G h0 qDR qLA qLE qCE qFI qCO qCR qSI qSR qMO qBO qPX qPY qPZ qSX dr bo po sx sy sw tx ty tz DR LA LE CE FI CO CR SI SR MO BO PX PY PZ SX)) [0, 1, 2, 3, 4, 5, 6, 7, 8, 9, 10, 11, 12, 13, 14, 15] (by decide) rfl) rfl rfl) rfl rfl hl.1 rfl (lv_room (Nat.le_of_ble_eq_true rfl)) dX9_point__45 ⟨Nat.le_of_ble_eq_true rfl, Nat.le_of_ble_eq_true rfl⟩) hP hD hS hA [0, 1, 2, 3, 4, 5, 6, 7, 8, 9, 10, 11, 12, 13, 14, 15] [] rfl rfl (by decide) (by decide) (fun H locs  hP hD hS => ?_)
          have hP : va_P (gD G) vwCl (wMod G h0 qDR qLA qLE qCE qFI qCO qCR qSI qSR qMO qBO qPX qPY qPZ qSX dr bo po sx sy sw v_11.2.1 v_11.2.2.1 v_11.2.2.2 DR LA LE CE FI CO CR SI SR MO BO PX PY PZ SX) H := hP.sub [0, 1, 2, 3, 4, 5, 6, 7, 8, 9, 10, 11, 12, 13, 14, 15] rfl
          have hD : va_D A (wMod G h0 qDR qLA qLE qCE qFI qCO qCR qSI qSR qMO qBO qPX qPY qPZ qSX dr bo po sx sy sw v_11.2.1 v_11.2.2.1 v_11.2.2.2 DR LA LE CE FI CO CR SI SR MO BO PX PY PZ SX) := hD.sub [0, 1, 2, 3, 4, 5, 6, 7, 8, 9, 10, 11, 12, 13, 14, 15] (by decide) rfl
          refine lv_bipush (v := (-4)) hx hb dX9_point__48 (by decide) ?_
          refine lv_icmp_ne (tgt := 57) hx hb dX9_point__50 (by decide) (fun c_12 => ?_) (fun c_12 => ?_)
          · replace hF := it_n c_12 hF
            refine lv_iload hx hb dX9_point__57 (lv_at hl 4 rfl) ?_
            refine lv_if_ne (tgt := 69) hx hb dX9_point__59 (by decide) (fun c_13 => ?_) (fun c_13 => ?_)
            · replace hF := it_n c_13 hF
              refine lv_iload hx hb dX9_point__69 (lv_at hl 4 rfl) ?_
              refine lv_iconst (v := 1) hx hb dX9_point__71 (by decide) ?_
              refine lv_icmp_ne (tgt := 82) hx hb dX9_point__72 (by decide) (fun c_14 => ?_) (fun c_14 => ?_)
              · replace hF := it_n c_14 hF
                refine lv_aload_n hx hb dX9_point__82 rfl (lv_at hl 0 rfl) ?_
                refine va_get (ci := 9) (v := .int v_11.2.2.2) (C := RX9) (T := TX9) (N := 24) hx hb hts hin9 hown hK hP 0 rfl rfl 23 (by decide) hfl197 (fun _ h9 => h9) rfl dX9_point__83 ?_
                exact W.iret (v := v_11.2.2.2) hx hb hr  (fun t ht hW => ⟨⟨v_11.2.2.2, (v_11.2.1, v_11.2.2.1, v_11.2.2.2), rfl, pr_e hF, qW_mk ht hP hK hW hD⟩, hS.F ht⟩) hS.2.2 dX9_point__86
              · replace hF := it_p c_14 hF
                refine lv_aload_n hx hb dX9_point__75 rfl (lv_at hl 0 rfl) ?_
                refine va_get (ci := 9) (v := .int v_11.2.2.1) (C := RX9) (T := TX9) (N := 24) hx hb hts hin9 hown hK hP 0 rfl rfl 22 (by decide) hfl194 (fun _ h9 => h9) rfl dX9_point__76 ?_
                refine lv_goto (tgt := 86) hx hb dX9_point__79 (by decide) ?_
                exact W.iret (v := v_11.2.2.1) hx hb hr  (fun t ht hW => ⟨⟨v_11.2.2.1, (v_11.2.1, v_11.2.2.1, v_11.2.2.2), rfl, pr_e hF, qW_mk ht hP hK hW hD⟩, hS.F ht⟩) hS.2.2 dX9_point__86
            · replace hF := it_p c_13 hF
              refine lv_aload_n hx hb dX9_point__62 rfl (lv_at hl 0 rfl) ?_
              refine va_get (ci := 9) (v := .int v_11.2.1) (C := RX9) (T := TX9) (N := 24) hx hb hts hin9 hown hK hP 0 rfl rfl 21 (by decide) hfl191 (fun _ h9 => h9) rfl dX9_point__63 ?_
              refine lv_goto (tgt := 86) hx hb dX9_point__66 (by decide) ?_
              exact W.iret (v := v_11.2.1) hx hb hr  (fun t ht hW => ⟨⟨v_11.2.1, (v_11.2.1, v_11.2.2.1, v_11.2.2.2), rfl, pr_e hF, qW_mk ht hP hK hW hD⟩, hS.F ht⟩) hS.2.2 dX9_point__86
          · replace hF := it_p c_12 hF
            refine lv_sipush (v := 10000) hx hb dX9_point__53 (by decide) ?_
            exact W.iret (v := 10000) hx hb hr  (fun t ht hW => ⟨⟨10000, (v_11.2.1, v_11.2.2.1, v_11.2.2.2), rfl, pr_e hF, qW_mk ht hP hK hW hD⟩, hS.F ht⟩) hS.2.2 dX9_point__56
def fX9_rank (bo : Int32) (tx : Int32) (ty : Int32) (tz : Int32) (FI : Nat → Int32) (CO : Nat → Int32) (CR : Nat → Int32) (SI : Nat → Int32) (SR : Nat → Int32) (BO : Nat → Int32) (p1 : Int32) (p2 : Int32) (p3 : Int32) (p4 : Int32) (p5 : Int32) : Option (Int32 × Int32 × Int32 × Int32) :=
  (bd (fX9_is bo p1) (fun v_1 => (if v_1 = 0 then (some ((-1), tx, ty, tz)) else (bd (fX9_in p2.toInt64 1 5) (fun v_4 => (if v_4 = 0 then (some ((-1), tx, ty, tz)) else (bd (fX9_gone tx ty tz FI CO CR SI SR BO p1 p2 0 1 p3 p4 p5) (fun v_7 => (some (v_7.1, v_7.2.1, v_7.2.2.1, v_7.2.2.2))))))))))
abbrev rX9_rank : Room := { frames := 2, cells := 0, slots := 0, locals := 83 }
set_option maxHeartbeats 40000000 in
set_option maxRecDepth 100000 in
theorem kX9_rank (l : Launch) (G : GT) (h0 qDR qLA qLE qCE qFI qCO qCR qSI qSR qMO qBO qPX qPY qPZ qSX : Nat) (sz : Nat) (dr : Int32) (bo : Int32) (po : Int32) (sx : Int32) (sy : Int32) (sw : Int32) (tx : Int32) (ty : Int32) (tz : Int32) (DR : Nat → Int32) (LA : Nat → Int32) (LE : Nat → Int32) (CE : Nat → Int64) (FI : Nat → Int32) (CO : Nat → Int32) (CR : Nat → Int32) (SI : Nat → Int32) (SR : Nat → Int32) (MO : Nat → Int32) (BO : Nat → Int32) (PX : Nat → Int32) (PY : Nat → Int32) (PZ : Nat → Int32) (SX : Nat → Int32) (p1 : Int32) (p2 : Int32) (p3 : Int32) (p4 : Int32) (p5 : Int32) (res : Int32 × Int32 × Int32 × Int32) (hF : fX9_rank bo tx ty tz FI CO CR SI SR BO p1 p2 p3 p4 p5 = some res) : Met l yX9_rank wsX9_rank rX9_rank (va_Pc [.ref h0, .int p1, .int p2, .int p3, .int p4, .int p5] (pW G sz (wMod G h0 qDR qLA qLE qCE qFI qCO qCR qSI qSR qMO qBO qPX qPY qPZ qSX dr bo po sx sy sw tx ty tz DR LA LE CE FI CO CR SI SR MO BO PX PY PZ SX))) (va_Qi (fun (r : Int32) (u : Int32 × Int32 × Int32) => r = res.1 ∧ u = res.2) (fun u t => qW G (va_A (wMod G h0 qDR qLA qLE qCE qFI qCO qCR qSI qSR qMO qBO qPX qPY qPZ qSX dr bo po sx sy sw tx ty tz DR LA LE CE FI CO CR SI SR MO BO PX PY PZ SX) sz) (wMod G h0 qDR qLA qLE qCE qFI qCO qCR qSI qSR qMO qBO qPX qPY qPZ qSX dr bo po sx sy sw u.1 u.2.1 u.2.2 DR LA LE CE FI CO CR SI SR MO BO PX PY PZ SX) t) (va_A (wMod G h0 qDR qLA qLE qCE qFI qCO qCR qSI qSR qMO qBO qPX qPY qPZ qSX dr bo po sx sy sw tx ty tz DR LA LE CE FI CO CR SI SR MO BO PX PY PZ SX) sz)) 0 0 (va_A (wMod G h0 qDR qLA qLE qCE qFI qCO qCR qSI qSR qMO qBO qPX qPY qPZ qSX dr bo po sx sy sw tx ty tz DR LA LE CE FI CO CR SI SR MO BO PX PY PZ SX) sz) := by
  refine Met.ofW (cc := cX9_rank) (maxL := 6) (ret := (some .int)) (by decide) rfl ?_
  intro p e s m args below meth c s₁ B hml hv
  obtain ⟨rfl, hsz, hP, hK, hD0⟩ := hv
  have hx := B.exec
  have hb := B.bytes
  have hr := B.returns
  have hts := atoms_spec (ws := wsX9_rank) B.pre
  have hown : s.vm.findClass RX9 = some m.cls := findClass_of_methodNamed B.named
  have hlocks := B.notSynchronized
  subst hsz
  have hD := hD0.self (sz := s.heap.size)
  generalize hAe : va_A (wMod G h0 qDR qLA qLE qCE qFI qCO qCR qSI qSR qMO qBO qPX qPY qPZ qSX dr bo po sx sy sw tx ty tz DR LA LE CE FI CO CR SI SR MO BO PX PY PZ SX) s.heap.size = A at hD ⊢
  have hA : ∀ q : Nat, s.heap.size ≤ q → A q := fun q h => by rw [← hAe]; exact Or.inr h
  have hS : va_S A s.heap s.heap [] := va_S.rf
  have hcn58 := hts (.constantLong RX9 58 (5)) (by decide +kernel)
  have hl := lv_entry ([.ref h0, .int p1, .int p2, .int p3, .int p4, .int p5]) (n := 6) (Nat.le_of_ble_eq_true rfl)
  rw [lg_entry_eq]
  generalize (lg_sl ([.ref h0, .int p1, .int p2, .int p3, .int p4, .int p5]) ++ List.replicate (6 - (lg_sl ([.ref h0, .int p1, .int p2, .int p3, .int p4, .int p5])).length) Slot.unset).toArray = ls at hl ⊢
  have hl : lv_has ls 6 [(0, .ref h0), (1, .int p1), (2, .int p2), (3, .int p3), (4, .int p4), (5, .int p5)] := hl
  unfold fX9_rank at hF
  refine lv_aload_n hx hb dX9_rank_0 rfl (lv_at hl 0 rfl) ?_
  refine lv_iload_n hx hb dX9_rank_1 rfl (lv_at hl 1 rfl) ?_
  obtain ⟨v_1, hv_1, hF⟩ := bd_s hF
  refine ro_ze (va_runV (As := [.int p1]) (rest := []) ⟨hx, hb, hml, hown, hts⟩ (kX9_is l G h0 qDR qLA qLE qCE qFI qCO qCR qSI qSR qMO qBO qPX qPY qPZ qSX dr bo po sx sy sw tx ty tz DR LA LE CE FI CO CR SI SR MO BO PX PY PZ SX p1 v_1 hv_1) (cwV 1 hts gX9_rank_X9_is rfl rfl rfl (by decide +kernel) ⟨Nat.le_of_ble_eq_true rfl, Nat.le_of_ble_eq_true rfl⟩) (pvR (q0 := 0) 9 hK (hP.sub (ws' := (wMod G h0 qDR qLA qLE qCE qFI qCO qCR qSI qSR qMO qBO qPX qPY qPZ qSX dr bo po sx sy sw tx ty tz DR LA LE CE FI CO CR SI SR MO BO PX PY PZ SX)) [0, 1, 2, 3, 4, 5, 6, 7, 8, 9, 10, 11, 12, 13, 14, 15] rfl) rfl rfl) rfl rfl hl.1 rfl (lv_room (Nat.le_of_ble_eq_true rfl)) dX9_rank_2 ⟨Nat.le_of_ble_eq_true rfl, Nat.le_of_ble_eq_true rfl⟩) (fun hb_2 => ?_)
  refine lv_if_eq (tgt := 20) hx hb dX9_rank_5 (by decide) (fun c_3 => ?_) (fun c_3 => ?_)
  · replace hF := it_p c_3 hF
    refine lv_iconst (v := (-1)) hx hb dX9_rank_20 (by decide) ?_
    exact W.iret (v := (-1)) hx hb hr  (fun t ht hW => ⟨⟨(-1), (tx, ty, tz), rfl, pr_e hF, qW_mk ht hP hK hW hD⟩, hS.F ht⟩) hS.2.2 dX9_rank_21
  · replace hF := it_n c_3 hF
    refine lv_iload_n hx hb dX9_rank_8 rfl (lv_at hl 2 rfl) ?_
    refine lv_i2l hx hb dX9_rank_9 rfl ?_
    refine lv_lconst (v := 1) hx hb dX9_rank_10 (by decide) ?_
    refine lv_ldc2 (v := 5) hx hb hown hcn58 dX9_rank_11 ?_
    obtain ⟨v_4, hv_4, hF⟩ := bd_s hF
    refine ro_ze (va_runS (As := [.long p2.toInt64, .long 1, .long 5]) (rest := []) ⟨hx, hb, hml, hown, hts⟩ (kX9_in l G p2.toInt64 1 5 v_4 hv_4) (va_cwS 3 hts gX9_rank_X9_in rfl rfl rfl (by decide +kernel) ⟨Nat.le_of_ble_eq_true rfl, Nat.le_of_ble_eq_true rfl⟩) (psR hK (hP.sub (ws' := ([] : va_W)) [] rfl)) rfl rfl hl.1 rfl (lv_room (Nat.le_of_ble_eq_true rfl)) dX9_rank_14 ⟨Nat.le_of_ble_eq_true rfl, Nat.le_of_ble_eq_true rfl⟩) (fun hb_5 => ?_)
    refine lv_if_ne (tgt := 22) hx hb dX9_rank_17 (by decide) (fun c_6 => ?_) (fun c_6 => ?_)
    · replace hF := it_n c_6 hF
      refine lv_aload_n hx hb dX9_rank_22 rfl (lv_at hl 0 rfl) ?_
      refine lv_iload_n hx hb dX9_rank_23 rfl (lv_at hl 1 rfl) ?_
      refine lv_iload_n hx hb dX9_rank_24 rfl (lv_at hl 2 rfl) ?_
      refine lv_iconst (v := 0) hx hb dX9_rank_25 (by decide) ?_
      refine lv_iconst (v := 1) hx hb dX9_rank_26 (by decide) ?_
      refine lv_iload_n hx hb dX9_rank_27 rfl (lv_at hl 3 rfl) ?_
      refine lv_iload hx hb dX9_rank_28 (lv_at hl 4 rfl) ?_
      refine lv_iload hx hb dX9_rank_30 (lv_at hl 5 rfl) ?_
      obtain ⟨v_7, hv_7, hF⟩ := bd_s hF
      refine rw_ie (wf := (fun (u : Int32 × Int32 × Int32) => (wMod G h0 qDR qLA qLE qCE qFI qCO qCR qSI qSR qMO qBO qPX qPY qPZ qSX dr bo po sx sy sw u.1 u.2.1 u.2.2 DR LA LE CE FI CO CR SI SR MO BO PX PY PZ SX))) (wr := []) (va_runV (As := [.int p1, .int p2, .int 0, .int 1, .int p3, .int p4, .int p5]) (rest := []) ⟨hx, hb, hml, hown, hts⟩ (kX9_gone l G h0 qDR qLA qLE qCE qFI qCO qCR qSI qSR qMO qBO qPX qPY qPZ qSX s.heap.size dr bo po sx sy sw tx ty tz DR LA LE CE FI CO CR SI SR MO BO PX PY PZ SX p1 p2 0 1 p3 p4 p5 v_7 hv_7) (cwV 7 hts gX9_rank_X9_gone rfl rfl rfl (by decide +kernel) ⟨Nat.le_of_ble_eq_true rfl, Nat.le_of_ble_eq_true rfl⟩) (pvW (q0 := 0) 9 hK (hP.sub (ws' := (wMod G h0 qDR qLA qLE qCE qFI qCO qCR qSI qSR qMO qBO qPX qPY qPZ qSX dr bo po sx sy sw tx ty tz DR LA LE CE FI CO CR SI SR MO BO PX PY PZ SX)) [0, 1, 2, 3, 4, 5, 6, 7, 8, 9, 10, 11, 12, 13, 14, 15] rfl) (hD.sub (ws' := (wMod G h0 qDR qLA qLE qCE qFI qCO qCR qSI qSR qMO qBO qPX qPY qPZ qSX dr bo po sx sy sw tx ty tz DR LA LE CE FI CO CR SI SR MO BO PX PY PZ SX)) [0, 1, 2, 3, 4, 5, 6, 7, 8, 9, 10, 11, 12, 13, 14, 15] (by decide) rfl) rfl rfl) rfl rfl hl.1 rfl (lv_room (Nat.le_of_ble_eq_true rfl)) dX9_rank_32 ⟨Nat.le_of_ble_eq_true rfl, Nat.le_of_ble_eq_true rfl⟩) hP hD hS hA [0, 1, 2, 3, 4, 5, 6, 7, 8, 9, 10, 11, 12, 13, 14, 15] [] rfl rfl (by decide) (by decide) (fun H locs  hP hD hS => ?_)
      have hP : va_P (gD G) vwCl (wMod G h0 qDR qLA qLE qCE qFI qCO qCR qSI qSR qMO qBO qPX qPY qPZ qSX dr bo po sx sy sw v_7.2.1 v_7.2.2.1 v_7.2.2.2 DR LA LE CE FI CO CR SI SR MO BO PX PY PZ SX) H := hP.sub [0, 1, 2, 3, 4, 5, 6, 7, 8, 9, 10, 11, 12, 13, 14, 15] rfl
      have hD : va_D A (wMod G h0 qDR qLA qLE qCE qFI qCO qCR qSI qSR qMO qBO qPX qPY qPZ qSX dr bo po sx sy sw v_7.2.1 v_7.2.2.1 v_7.2.2.2 DR LA LE CE FI CO CR SI SR MO BO PX PY PZ SX) := hD.sub [0, 1, 2, 3, 4, 5, 6, 7, 8, 9, 10, 11, 12, 13, 14, 15] (by decide) rfl
      exact W.iret (v := v_7.1) hx hb hr  (fun t ht hW => ⟨⟨v_7.1, (v_7.2.1, v_7.2.2.1, v_7.2.2.2), rfl, pr_e hF, qW_mk ht hP hK hW hD⟩, hS.F ht⟩) hS.2.2 dX9_rank_35
    · replace hF := it_p c_6 hF
      refine lv_iconst (v := (-1)) hx hb dX9_rank_20 (by decide) ?_
      exact W.iret (v := (-1)) hx hb hr  (fun t ht hW => ⟨⟨(-1), (tx, ty, tz), rfl, pr_e hF, qW_mk ht hP hK hW hD⟩, hS.F ht⟩) hS.2.2 dX9_rank_21
def fX9_isSmall (CO : Nat → Int32) (CR : Nat → Int32) (p1 : Int32) (p2 : Int32) (p3 : Int32) (p4 : Int32) : Option (Int32) :=
  (bd (fX9_least CO CR p1 0) (fun v_1 => (bd (fX9_in (v_1.toInt64 + p2.toInt64) (-5) 5) (fun v_2 => (if v_2 = 0 then (some 0) else (bd (fX9_greatest CO CR p1 0) (fun v_5 => (bd (fX9_in (v_5.toInt64 + p2.toInt64) (-5) 5) (fun v_6 => (if v_6 = 0 then (some 0) else (bd (fX9_least CO CR p1 1) (fun v_9 => (bd (fX9_in (v_9.toInt64 + p3.toInt64) (-5) 5) (fun v_10 => (if v_10 = 0 then (some 0) else (bd (fX9_greatest CO CR p1 1) (fun v_13 => (bd (fX9_in (v_13.toInt64 + p3.toInt64) (-5) 5) (fun v_14 => (if v_14 = 0 then (some 0) else (bd (fX9_least CO CR p1 2) (fun v_17 => (bd (fX9_in (v_17.toInt64 + p4.toInt64) (-5) 5) (fun v_18 => (if v_18 = 0 then (some 0) else (bd (fX9_greatest CO CR p1 2) (fun v_21 => (bd (fX9_in (v_21.toInt64 + p4.toInt64) (-5) 5) (fun v_22 => (if v_22 = 0 then (some 0) else (some 1)))))))))))))))))))))))))))))))
abbrev rX9_isSmall : Room := { frames := 1, cells := 0, slots := 0, locals := 25 }
set_option maxHeartbeats 40000000 in
set_option maxRecDepth 100000 in
theorem kX9_isSmall (l : Launch) (G : GT) (h0 qDR qLA qLE qCE qFI qCO qCR qSI qSR qMO qBO qPX qPY qPZ qSX : Nat) (dr : Int32) (bo : Int32) (po : Int32) (sx : Int32) (sy : Int32) (sw : Int32) (tx : Int32) (ty : Int32) (tz : Int32) (DR : Nat → Int32) (LA : Nat → Int32) (LE : Nat → Int32) (CE : Nat → Int64) (FI : Nat → Int32) (CO : Nat → Int32) (CR : Nat → Int32) (SI : Nat → Int32) (SR : Nat → Int32) (MO : Nat → Int32) (BO : Nat → Int32) (PX : Nat → Int32) (PY : Nat → Int32) (PZ : Nat → Int32) (SX : Nat → Int32) (p1 : Int32) (p2 : Int32) (p3 : Int32) (p4 : Int32) (res : Int32) (hF : fX9_isSmall CO CR p1 p2 p3 p4 = some res) : Met l yX9_isSmall wsX9_isSmall rX9_isSmall (va_Pc [.ref h0, .int p1, .int p2, .int p3, .int p4] (pR G (wMod G h0 qDR qLA qLE qCE qFI qCO qCR qSI qSR qMO qBO qPX qPY qPZ qSX dr bo po sx sy sw tx ty tz DR LA LE CE FI CO CR SI SR MO BO PX PY PZ SX))) (vp_Si (fun r => r = res ∧ (r = 0 ∨ r = 1))) 0 0 (fun _ => False) := by
  refine Met.ofW (cc := cX9_isSmall) (maxL := 5) (ret := (some .boolean)) (by decide) rfl ?_
  intro p e s m args below meth c s₁ B hml hv
  obtain ⟨rfl, hP, hK⟩ := hv
  have hx := B.exec
  have hb := B.bytes
  have hr := B.returns
  have hts := atoms_spec (ws := wsX9_isSmall) B.pre
  have hown : s.vm.findClass RX9 = some m.cls := findClass_of_methodNamed B.named
  have hlocks := B.notSynchronized
  have hcn56 := hts (.constantLong RX9 56 (-5)) (by decide +kernel)
  have hcn58 := hts (.constantLong RX9 58 (5)) (by decide +kernel)
  have hl := lv_entry ([.ref h0, .int p1, .int p2, .int p3, .int p4]) (n := 5) (Nat.le_of_ble_eq_true rfl)
  rw [lg_entry_eq]
  generalize (lg_sl ([.ref h0, .int p1, .int p2, .int p3, .int p4]) ++ List.replicate (5 - (lg_sl ([.ref h0, .int p1, .int p2, .int p3, .int p4])).length) Slot.unset).toArray = ls at hl ⊢
  have hl : lv_has ls 5 [(0, .ref h0), (1, .int p1), (2, .int p2), (3, .int p3), (4, .int p4)] := hl
  unfold fX9_isSmall at hF
  refine lv_aload_n hx hb dX9_isSmall_0 rfl (lv_at hl 0 rfl) ?_
  refine lv_iload_n hx hb dX9_isSmall_1 rfl (lv_at hl 1 rfl) ?_
  refine lv_iconst (v := 0) hx hb dX9_isSmall_2 (by decide) ?_
  obtain ⟨v_1, hv_1, hF⟩ := bd_s hF
  refine ro_ie (va_runV (As := [.int p1, .int 0]) (rest := []) ⟨hx, hb, hml, hown, hts⟩ (kX9_least l G h0 qDR qLA qLE qCE qFI qCO qCR qSI qSR qMO qBO qPX qPY qPZ qSX dr bo po sx sy sw tx ty tz DR LA LE CE FI CO CR SI SR MO BO PX PY PZ SX p1 0 v_1 hv_1) (cwV 2 hts gX9_isSmall_X9_least rfl rfl rfl (by decide +kernel) ⟨Nat.le_of_ble_eq_true rfl, Nat.le_of_ble_eq_true rfl⟩) (pvR (q0 := 0) 9 hK (hP.sub (ws' := (wMod G h0 qDR qLA qLE qCE qFI qCO qCR qSI qSR qMO qBO qPX qPY qPZ qSX dr bo po sx sy sw tx ty tz DR LA LE CE FI CO CR SI SR MO BO PX PY PZ SX)) [0, 1, 2, 3, 4, 5, 6, 7, 8, 9, 10, 11, 12, 13, 14, 15] rfl) rfl rfl) rfl rfl hl.1 rfl (lv_room (Nat.le_of_ble_eq_true rfl)) dX9_isSmall_3 ⟨Nat.le_of_ble_eq_true rfl, Nat.le_of_ble_eq_true rfl⟩) ?_
  refine lv_i2l hx hb dX9_isSmall_6 rfl ?_
  refine lv_iload_n hx hb dX9_isSmall_7 rfl (lv_at hl 2 rfl) ?_
  refine lv_i2l hx hb dX9_isSmall_8 rfl ?_
  refine lv_ladd hx hb dX9_isSmall_9 ?_
  refine lv_ldc2 (v := (-5)) hx hb hown hcn56 dX9_isSmall_10 ?_
  refine lv_ldc2 (v := 5) hx hb hown hcn58 dX9_isSmall_13 ?_
  obtain ⟨v_2, hv_2, hF⟩ := bd_s hF
  refine ro_ze (va_runS (As := [.long (v_1.toInt64 + p2.toInt64), .long (-5), .long 5]) (rest := []) ⟨hx, hb, hml, hown, hts⟩ (kX9_in l G (v_1.toInt64 + p2.toInt64) (-5) 5 v_2 hv_2) (va_cwS 3 hts gX9_isSmall_X9_in rfl rfl rfl (by decide +kernel) ⟨Nat.le_of_ble_eq_true rfl, Nat.le_of_ble_eq_true rfl⟩) (psR hK (hP.sub (ws' := ([] : va_W)) [] rfl)) rfl rfl hl.1 rfl (lv_room (Nat.le_of_ble_eq_true rfl)) dX9_isSmall_16 ⟨Nat.le_of_ble_eq_true rfl, Nat.le_of_ble_eq_true rfl⟩) (fun hb_3 => ?_)
  refine lv_if_eq (tgt := 138) hx hb dX9_isSmall_19 (by decide) (fun c_4 => ?_) (fun c_4 => ?_)
  · replace hF := it_p c_4 hF
    refine lv_iconst (v := 0) hx hb dX9_isSmall_138 (by decide) ?_
    exact W.zret (v := 0) hx hb hr rfl (fun t ht hW => ⟨0, rfl, ⟨so_e hF, (Or.inl rfl)⟩, ht⟩) (fun q h => absurd h List.not_mem_nil) dX9_isSmall_139
  · replace hF := it_n c_4 hF
    refine lv_aload_n hx hb dX9_isSmall_22 rfl (lv_at hl 0 rfl) ?_
    refine lv_iload_n hx hb dX9_isSmall_23 rfl (lv_at hl 1 rfl) ?_
    refine lv_iconst (v := 0) hx hb dX9_isSmall_24 (by decide) ?_
    obtain ⟨v_5, hv_5, hF⟩ := bd_s hF
    refine ro_ie (va_runV (As := [.int p1, .int 0]) (rest := []) ⟨hx, hb, hml, hown, hts⟩ (kX9_greatest l G h0 qDR qLA qLE qCE qFI qCO qCR qSI qSR qMO qBO qPX qPY qPZ qSX dr bo po sx sy sw tx ty tz DR LA LE CE FI CO CR SI SR MO BO PX PY PZ SX p1 0 v_5 hv_5) (cwV 2 hts gX9_isSmall_X9_greatest rfl rfl rfl (by decide +kernel) ⟨Nat.le_of_ble_eq_true rfl, Nat.le_of_ble_eq_true rfl⟩) (pvR (q0 := 0) 9 hK (hP.sub (ws' := (wMod G h0 qDR qLA qLE qCE qFI qCO qCR qSI qSR qMO qBO qPX qPY qPZ qSX dr bo po sx sy sw tx ty tz DR LA LE CE FI CO CR SI SR MO BO PX PY PZ SX)) [0, 1, 2, 3, 4, 5, 6, 7, 8, 9, 10, 11, 12, 13, 14, 15] rfl) rfl rfl) rfl rfl hl.1 rfl (lv_room (Nat.le_of_ble_eq_true rfl)) dX9_isSmall_25 ⟨Nat.le_of_ble_eq_true rfl, Nat.le_of_ble_eq_true rfl⟩) ?_
    refine lv_i2l hx hb dX9_isSmall_28 rfl ?_
    refine lv_iload_n hx hb dX9_isSmall_29 rfl (lv_at hl 2 rfl) ?_
    refine lv_i2l hx hb dX9_isSmall_30 rfl ?_
    refine lv_ladd hx hb dX9_isSmall_31 ?_
    refine lv_ldc2 (v := (-5)) hx hb hown hcn56 dX9_isSmall_32 ?_
    refine lv_ldc2 (v := 5) hx hb hown hcn58 dX9_isSmall_35 ?_
    obtain ⟨v_6, hv_6, hF⟩ := bd_s hF
    refine ro_ze (va_runS (As := [.long (v_5.toInt64 + p2.toInt64), .long (-5), .long 5]) (rest := []) ⟨hx, hb, hml, hown, hts⟩ (kX9_in l G (v_5.toInt64 + p2.toInt64) (-5) 5 v_6 hv_6) (va_cwS 3 hts gX9_isSmall_X9_in rfl rfl rfl (by decide +kernel) ⟨Nat.le_of_ble_eq_true rfl, Nat.le_of_ble_eq_true rfl⟩) (psR hK (hP.sub (ws' := ([] : va_W)) [] rfl)) rfl rfl hl.1 rfl (lv_room (Nat.le_of_ble_eq_true rfl)) dX9_isSmall_38 ⟨Nat.le_of_ble_eq_true rfl, Nat.le_of_ble_eq_true rfl⟩) (fun hb_7 => ?_)
    refine lv_if_eq (tgt := 138) hx hb dX9_isSmall_41 (by decide) (fun c_8 => ?_) (fun c_8 => ?_)
    · replace hF := it_p c_8 hF
      refine lv_iconst (v := 0) hx hb dX9_isSmall_138 (by decide) ?_
      exact W.zret (v := 0) hx hb hr rfl (fun t ht hW => ⟨0, rfl, ⟨so_e hF, (Or.inl rfl)⟩, ht⟩) (fun q h => absurd h List.not_mem_nil) dX9_isSmall_139
    · replace hF := it_n c_8 hF
      refine lv_aload_n hx hb dX9_isSmall_44 rfl (lv_at hl 0 rfl) ?_
      refine lv_iload_n hx hb dX9_isSmall_45 rfl (lv_at hl 1 rfl) ?_
      refine lv_iconst (v := 1) hx hb dX9_isSmall_46 (by decide) ?_
      obtain ⟨v_9, hv_9, hF⟩ := bd_s hF
      refine ro_ie (va_runV (As := [.int p1, .int 1]) (rest := []) ⟨hx, hb, hml, hown, hts⟩ (kX9_least l G h0 qDR qLA qLE qCE qFI qCO qCR qSI qSR qMO qBO qPX qPY qPZ qSX dr bo po sx sy sw tx ty tz DR LA LE CE FI CO CR SI SR MO BO PX PY PZ SX p1 1 v_9 hv_9) (cwV 2 hts gX9_isSmall_X9_least rfl rfl rfl (by decide +kernel) ⟨Nat.le_of_ble_eq_true rfl, Nat.le_of_ble_eq_true rfl⟩) (pvR (q0 := 0) 9 hK (hP.sub (ws' := (wMod G h0 qDR qLA qLE qCE qFI qCO qCR qSI qSR qMO qBO qPX qPY qPZ qSX dr bo po sx sy sw tx ty tz DR LA LE CE FI CO CR SI SR MO BO PX PY PZ SX)) [0, 1, 2, 3, 4, 5, 6, 7, 8, 9, 10, 11, 12, 13, 14, 15] rfl) rfl rfl) rfl rfl hl.1 rfl (lv_room (Nat.le_of_ble_eq_true rfl)) dX9_isSmall_47 ⟨Nat.le_of_ble_eq_true rfl, Nat.le_of_ble_eq_true rfl⟩) ?_
      refine lv_i2l hx hb dX9_isSmall_50 rfl ?_
      refine lv_iload_n hx hb dX9_isSmall_51 rfl (lv_at hl 3 rfl) ?_
      refine lv_i2l hx hb dX9_isSmall_52 rfl ?_
      refine lv_ladd hx hb dX9_isSmall_53 ?_
      refine lv_ldc2 (v := (-5)) hx hb hown hcn56 dX9_isSmall_54 ?_
      refine lv_ldc2 (v := 5) hx hb hown hcn58 dX9_isSmall_57 ?_
      obtain ⟨v_10, hv_10, hF⟩ := bd_s hF
      refine ro_ze (va_runS (As := [.long (v_9.toInt64 + p3.toInt64), .long (-5), .long 5]) (rest := []) ⟨hx, hb, hml, hown, hts⟩ (kX9_in l G (v_9.toInt64 + p3.toInt64) (-5) 5 v_10 hv_10) (va_cwS 3 hts gX9_isSmall_X9_in rfl rfl rfl (by decide +kernel) ⟨Nat.le_of_ble_eq_true rfl, Nat.le_of_ble_eq_true rfl⟩) (psR hK (hP.sub (ws' := ([] : va_W)) [] rfl)) rfl rfl hl.1 rfl (lv_room (Nat.le_of_ble_eq_true rfl)) dX9_isSmall_60 ⟨Nat.le_of_ble_eq_true rfl, Nat.le_of_ble_eq_true rfl⟩) (fun hb_11 => ?_)
      refine lv_if_eq (tgt := 138) hx hb dX9_isSmall_63 (by decide) (fun c_12 => ?_) (fun c_12 => ?_)
      · replace hF := it_p c_12 hF
        refine lv_iconst (v := 0) hx hb dX9_isSmall_138 (by decide) ?_
        exact W.zret (v := 0) hx hb hr rfl (fun t ht hW => ⟨0, rfl, ⟨so_e hF, (Or.inl rfl)⟩, ht⟩) (fun q h => absurd h List.not_mem_nil) dX9_isSmall_139
      · replace hF := it_n c_12 hF
        refine lv_aload_n hx hb dX9_isSmall_66 rfl (lv_at hl 0 rfl) ?_
        refine lv_iload_n hx hb dX9_isSmall_67 rfl (lv_at hl 1 rfl) ?_
        refine lv_iconst (v := 1) hx hb dX9_isSmall_68 (by decide) ?_
        obtain ⟨v_13, hv_13, hF⟩ := bd_s hF
        refine ro_ie (va_runV (As := [.int p1, .int 1]) (rest := []) ⟨hx, hb, hml, hown, hts⟩ (kX9_greatest l G h0 qDR qLA qLE qCE qFI qCO qCR qSI qSR qMO qBO qPX qPY qPZ qSX dr bo po sx sy sw tx ty tz DR LA LE CE FI CO CR SI SR MO BO PX PY PZ SX p1 1 v_13 hv_13) (cwV 2 hts gX9_isSmall_X9_greatest rfl rfl rfl (by decide +kernel) ⟨Nat.le_of_ble_eq_true rfl, Nat.le_of_ble_eq_true rfl⟩) (pvR (q0 := 0) 9 hK (hP.sub (ws' := (wMod G h0 qDR qLA qLE qCE qFI qCO qCR qSI qSR qMO qBO qPX qPY qPZ qSX dr bo po sx sy sw tx ty tz DR LA LE CE FI CO CR SI SR MO BO PX PY PZ SX)) [0, 1, 2, 3, 4, 5, 6, 7, 8, 9, 10, 11, 12, 13, 14, 15] rfl) rfl rfl) rfl rfl hl.1 rfl (lv_room (Nat.le_of_ble_eq_true rfl)) dX9_isSmall_69 ⟨Nat.le_of_ble_eq_true rfl, Nat.le_of_ble_eq_true rfl⟩) ?_
        refine lv_i2l hx hb dX9_isSmall_72 rfl ?_
        refine lv_iload_n hx hb dX9_isSmall_73 rfl (lv_at hl 3 rfl) ?_
        refine lv_i2l hx hb dX9_isSmall_74 rfl ?_
        refine lv_ladd hx hb dX9_isSmall_75 ?_
        refine lv_ldc2 (v := (-5)) hx hb hown hcn56 dX9_isSmall_76 ?_
        refine lv_ldc2 (v := 5) hx hb hown hcn58 dX9_isSmall_79 ?_
        obtain ⟨v_14, hv_14, hF⟩ := bd_s hF
        refine ro_ze (va_runS (As := [.long (v_13.toInt64 + p3.toInt64), .long (-5), .long 5]) (rest := []) ⟨hx, hb, hml, hown, hts⟩ (kX9_in l G (v_13.toInt64 + p3.toInt64) (-5) 5 v_14 hv_14) (va_cwS 3 hts gX9_isSmall_X9_in rfl rfl rfl (by decide +kernel) ⟨Nat.le_of_ble_eq_true rfl, Nat.le_of_ble_eq_true rfl⟩) (psR hK (hP.sub (ws' := ([] : va_W)) [] rfl)) rfl rfl hl.1 rfl (lv_room (Nat.le_of_ble_eq_true rfl)) dX9_isSmall_82 ⟨Nat.le_of_ble_eq_true rfl, Nat.le_of_ble_eq_true rfl⟩) (fun hb_15 => ?_)
        refine lv_if_eq (tgt := 138) hx hb dX9_isSmall_85 (by decide) (fun c_16 => ?_) (fun c_16 => ?_)
        · replace hF := it_p c_16 hF
          refine lv_iconst (v := 0) hx hb dX9_isSmall_138 (by decide) ?_
          exact W.zret (v := 0) hx hb hr rfl (fun t ht hW => ⟨0, rfl, ⟨so_e hF, (Or.inl rfl)⟩, ht⟩) (fun q h => absurd h List.not_mem_nil) dX9_isSmall_139
        · replace hF := it_n c_16 hF
          refine lv_aload_n hx hb dX9_isSmall_88 rfl (lv_at hl 0 rfl) ?_
          refine lv_iload_n hx hb dX9_isSmall_89 rfl (lv_at hl 1 rfl) ?_
          refine lv_iconst (v := 2) hx hb dX9_isSmall_90 (by decide) ?_
          obtain ⟨v_17, hv_17, hF⟩ := bd_s hF
          refine ro_ie (va_runV (As := [.int p1, .int 2]) (rest := []) ⟨hx, hb, hml, hown, hts⟩ (kX9_least l G h0 qDR qLA qLE qCE qFI qCO qCR qSI qSR qMO qBO qPX qPY qPZ qSX dr bo po sx sy sw tx ty tz DR LA LE CE FI CO CR SI SR MO BO PX PY PZ SX p1 2 v_17 hv_17) (cwV 2 hts gX9_isSmall_X9_least rfl rfl rfl (by decide +kernel) ⟨Nat.le_of_ble_eq_true rfl, Nat.le_of_ble_eq_true rfl⟩) (pvR (q0 := 0) 9 hK (hP.sub (ws' := (wMod G h0 qDR qLA qLE qCE qFI qCO qCR qSI qSR qMO qBO qPX qPY qPZ qSX dr bo po sx sy sw tx ty tz DR LA LE CE FI CO CR SI SR MO BO PX PY PZ SX)) [0, 1, 2, 3, 4, 5, 6, 7, 8, 9, 10, 11, 12, 13, 14, 15] rfl) rfl rfl) rfl rfl hl.1 rfl (lv_room (Nat.le_of_ble_eq_true rfl)) dX9_isSmall_91 ⟨Nat.le_of_ble_eq_true rfl, Nat.le_of_ble_eq_true rfl⟩) ?_
          refine lv_i2l hx hb dX9_isSmall_94 rfl ?_
          refine lv_iload hx hb dX9_isSmall_95 (lv_at hl 4 rfl) ?_
          refine lv_i2l hx hb dX9_isSmall_97 rfl ?_
          refine lv_ladd hx hb dX9_isSmall_98 ?_
          refine lv_ldc2 (v := (-5)) hx hb hown hcn56 dX9_isSmall_99 ?_
          refine lv_ldc2 (v := 5) hx hb hown hcn58 dX9_isSmall_102 ?_
          obtain ⟨v_18, hv_18, hF⟩ := bd_s hF
          refine ro_ze (va_runS (As := [.long (v_17.toInt64 + p4.toInt64), .long (-5), .long 5]) (rest := []) ⟨hx, hb, hml, hown, hts⟩ (kX9_in l G (v_17.toInt64 + p4.toInt64) (-5) 5 v_18 hv_18) (va_cwS 3 hts gX9_isSmall_X9_in rfl rfl rfl (by decide +kernel) ⟨Nat.le_of_ble_eq_true rfl, Nat.le_of_ble_eq_true rfl⟩) (psR hK (hP.sub (ws' := ([] : va_W)) [] rfl)) rfl rfl hl.1 rfl (lv_room (Nat.le_of_ble_eq_true rfl)) dX9_isSmall_105 ⟨Nat.le_of_ble_eq_true rfl, Nat.le_of_ble_eq_true rfl⟩) (fun hb_19 => ?_)
          refine lv_if_eq (tgt := 138) hx hb dX9_isSmall_108 (by decide) (fun c_20 => ?_) (fun c_20 => ?_)
          · replace hF := it_p c_20 hF
            refine lv_iconst (v := 0) hx hb dX9_isSmall_138 (by decide) ?_
            exact W.zret (v := 0) hx hb hr rfl (fun t ht hW => ⟨0, rfl, ⟨so_e hF, (Or.inl rfl)⟩, ht⟩) (fun q h => absurd h List.not_mem_nil) dX9_isSmall_139
          · replace hF := it_n c_20 hF
            refine lv_aload_n hx hb dX9_isSmall_111 rfl (lv_at hl 0 rfl) ?_
            refine lv_iload_n hx hb dX9_isSmall_112 rfl (lv_at hl 1 rfl) ?_
            refine lv_iconst (v := 2) hx hb dX9_isSmall_113 (by decide) ?_
            obtain ⟨v_21, hv_21, hF⟩ := bd_s hF
            refine ro_ie (va_runV (As := [.int p1, .int 2]) (rest := []) ⟨hx, hb, hml, hown, hts⟩ (kX9_greatest l G h0 qDR qLA qLE qCE qFI qCO qCR qSI qSR qMO qBO qPX qPY qPZ qSX dr bo po sx sy sw tx ty tz DR LA LE CE FI CO CR SI SR MO BO PX PY PZ SX p1 2 v_21 hv_21) (cwV 2 hts gX9_isSmall_X9_greatest rfl rfl rfl (by decide +kernel) ⟨Nat.le_of_ble_eq_true rfl, Nat.le_of_ble_eq_true rfl⟩) (pvR (q0 := 0) 9 hK (hP.sub (ws' := (wMod G h0 qDR qLA qLE qCE qFI qCO qCR qSI qSR qMO qBO qPX qPY qPZ qSX dr bo po sx sy sw tx ty tz DR LA LE CE FI CO CR SI SR MO BO PX PY PZ SX)) [0, 1, 2, 3, 4, 5, 6, 7, 8, 9, 10, 11, 12, 13, 14, 15] rfl) rfl rfl) rfl rfl hl.1 rfl (lv_room (Nat.le_of_ble_eq_true rfl)) dX9_isSmall_114 ⟨Nat.le_of_ble_eq_true rfl, Nat.le_of_ble_eq_true rfl⟩) ?_
            refine lv_i2l hx hb dX9_isSmall_117 rfl ?_
            refine lv_iload hx hb dX9_isSmall_118 (lv_at hl 4 rfl) ?_
            refine lv_i2l hx hb dX9_isSmall_120 rfl ?_
            refine lv_ladd hx hb dX9_isSmall_121 ?_
            refine lv_ldc2 (v := (-5)) hx hb hown hcn56 dX9_isSmall_122 ?_
            refine lv_ldc2 (v := 5) hx hb hown hcn58 dX9_isSmall_125 ?_
            obtain ⟨v_22, hv_22, hF⟩ := bd_s hF
            refine ro_ze (va_runS (As := [.long (v_21.toInt64 + p4.toInt64), .long (-5), .long 5]) (rest := []) ⟨hx, hb, hml, hown, hts⟩ (kX9_in l G (v_21.toInt64 + p4.toInt64) (-5) 5 v_22 hv_22) (va_cwS 3 hts gX9_isSmall_X9_in rfl rfl rfl (by decide +kernel) ⟨Nat.le_of_ble_eq_true rfl, Nat.le_of_ble_eq_true rfl⟩) (psR hK (hP.sub (ws' := ([] : va_W)) [] rfl)) rfl rfl hl.1 rfl (lv_room (Nat.le_of_ble_eq_true rfl)) dX9_isSmall_128 ⟨Nat.le_of_ble_eq_true rfl, Nat.le_of_ble_eq_true rfl⟩) (fun hb_23 => ?_)
            refine lv_if_eq (tgt := 138) hx hb dX9_isSmall_131 (by decide) (fun c_24 => ?_) (fun c_24 => ?_)
            · replace hF := it_p c_24 hF
              refine lv_iconst (v := 0) hx hb dX9_isSmall_138 (by decide) ?_
              exact W.zret (v := 0) hx hb hr rfl (fun t ht hW => ⟨0, rfl, ⟨so_e hF, (Or.inl rfl)⟩, ht⟩) (fun q h => absurd h List.not_mem_nil) dX9_isSmall_139
            · replace hF := it_n c_24 hF
              refine lv_iconst (v := 1) hx hb dX9_isSmall_134 (by decide) ?_
              refine lv_goto (tgt := 139) hx hb dX9_isSmall_135 (by decide) ?_
              exact W.zret (v := 1) hx hb hr rfl (fun t ht hW => ⟨1, rfl, ⟨so_e hF, (Or.inr rfl)⟩, ht⟩) (fun q h => absurd h List.not_mem_nil) dX9_isSmall_139
def JX9_within_91 (bo : Int32) (FI : Nat → Int32) (CO : Nat → Int32) (CR : Nat → Int32) (SI : Nat → Int32) (SR : Nat → Int32) (BO : Nat → Int32) (k23 : Int32 → Int32 → Int32 → Int32 → Option (Int32)) (a1 : Int32) (a2 : Int32) (a4 : Int32) (t0 : Int32) : Option (Int32) :=
  (k23 a1 a2 t0 (a4 + 1))
def JX9_within_90 (bo : Int32) (FI : Nat → Int32) (CO : Nat → Int32) (CR : Nat → Int32) (SI : Nat → Int32) (SR : Nat → Int32) (BO : Nat → Int32) (k23 : Int32 → Int32 → Int32 → Int32 → Option (Int32)) (a1 : Int32) (a2 : Int32) (a4 : Int32) : Option (Int32) :=
  (JX9_within_91 bo FI CO CR SI SR BO k23 a1 a2 a4 0)
def LX9_within_23 (bo : Int32) (FI : Nat → Int32) (CO : Nat → Int32) (CR : Nat → Int32) (SI : Nat → Int32) (SR : Nat → Int32) (BO : Nat → Int32)  : Nat → Int32 → Int32 → Int32 → Int32 → Option (Int32)
  | 0, _, _, _, _ => none
  | k + 1, a1, a2, a3, a4 =>
  (gd_in a1 8 (if CO a1.toNatClampNeg ≤ a4 then (if a3 = 0 then (some 0) else (some 1)) else (if a3 = 0 then (JX9_within_90 bo FI CO CR SI SR BO (LX9_within_23 bo FI CO CR SI SR BO k) a1 a2 a4) else (gd_in ((120 * a1) + (3 * a4)) 960 (gd_in (((120 * a1) + (3 * a4)) + 1) 960 (gd_in (((120 * a1) + (3 * a4)) + 2) 960 (bd (fX9_where FI CR SI SR BO a2 ((CR ((120 * a1) + (3 * a4)).toNatClampNeg).toInt64) ((CR (((120 * a1) + (3 * a4)) + 1).toNatClampNeg).toInt64) ((CR (((120 * a1) + (3 * a4)) + 2).toNatClampNeg).toInt64) 1) (fun v_14 => (if v_14 ≤ 0 then (JX9_within_90 bo FI CO CR SI SR BO (LX9_within_23 bo FI CO CR SI SR BO k) a1 a2 a4) else (JX9_within_91 bo FI CO CR SI SR BO (LX9_within_23 bo FI CO CR SI SR BO k) a1 a2 a4 1))))))))))
def fX9_within (bo : Int32) (FI : Nat → Int32) (CO : Nat → Int32) (CR : Nat → Int32) (SI : Nat → Int32) (SR : Nat → Int32) (BO : Nat → Int32) (p1 : Int32) (p2 : Int32) : Option (Int32) :=
  (bd (fX9_is bo p1) (fun v_1 => (if v_1 = 0 then (some (-1)) else (bd (fX9_is bo p2) (fun v_4 => (if v_4 = 0 then (some (-1)) else (LX9_within_23 bo FI CO CR SI SR BO FU p1 p2 1 0)))))))
abbrev rX9_within : Room := { frames := 2, cells := 0, slots := 0, locals := 47 }
set_option maxHeartbeats 40000000 in
set_option maxRecDepth 100000 in
theorem kX9_within (l : Launch) (G : GT) (h0 qDR qLA qLE qCE qFI qCO qCR qSI qSR qMO qBO qPX qPY qPZ qSX : Nat) (dr : Int32) (bo : Int32) (po : Int32) (sx : Int32) (sy : Int32) (sw : Int32) (tx : Int32) (ty : Int32) (tz : Int32) (DR : Nat → Int32) (LA : Nat → Int32) (LE : Nat → Int32) (CE : Nat → Int64) (FI : Nat → Int32) (CO : Nat → Int32) (CR : Nat → Int32) (SI : Nat → Int32) (SR : Nat → Int32) (MO : Nat → Int32) (BO : Nat → Int32) (PX : Nat → Int32) (PY : Nat → Int32) (PZ : Nat → Int32) (SX : Nat → Int32) (p1 : Int32) (p2 : Int32) (res : Int32) (hF : fX9_within bo FI CO CR SI SR BO p1 p2 = some res) : Met l yX9_within wsX9_within rX9_within (va_Pc [.ref h0, .int p1, .int p2] (pR G (wMod G h0 qDR qLA qLE qCE qFI qCO qCR qSI qSR qMO qBO qPX qPY qPZ qSX dr bo po sx sy sw tx ty tz DR LA LE CE FI CO CR SI SR MO BO PX PY PZ SX))) (vp_Si (fun r => r = res)) 0 0 (fun _ => False) := by
  refine Met.ofW (cc := cX9_within) (maxL := 6) (ret := (some .int)) (by decide) rfl ?_
  intro p e s m args below meth c s₁ B hml hv
  obtain ⟨rfl, hP, hK⟩ := hv
  have hx := B.exec
  have hb := B.bytes
  have hr := B.returns
  have hts := atoms_spec (ws := wsX9_within) B.pre
  have hown : s.vm.findClass RX9 = some m.cls := findClass_of_methodNamed B.named
  have hlocks := B.notSynchronized
  have hin9 : ∀ w ∈ u_ws RX9 TX9 24, w ∈ wsX9_within := by decide +kernel
  have hfl26 := hts (.fieldLink RX9 26 "SwellBodiesModel" "corners" "[I") (by decide +kernel)
  have hfl29 := hts (.fieldLink RX9 29 "SwellBodiesModel" "cornerRow" "[I") (by decide +kernel)
  have hl := lv_entry ([.ref h0, .int p1, .int p2]) (n := 6) (Nat.le_of_ble_eq_true rfl)
  rw [lg_entry_eq]
  generalize (lg_sl ([.ref h0, .int p1, .int p2]) ++ List.replicate (6 - (lg_sl ([.ref h0, .int p1, .int p2])).length) Slot.unset).toArray = ls at hl ⊢
  have hl : lv_has ls 6 [(0, .ref h0), (1, .int p1), (2, .int p2)] := hl
  have hJ91 : ∀ (k23 : Int32 → Int32 → Int32 → Int32 → Option (Int32)), (∀ (a1 : Int32) (a2 : Int32) (a3 : Int32) (a4 : Int32) (ls : Array Slot), k23 a1 a2 a3 a4 = some res → lv_has ls 6 [(0, .ref h0), (1, .int a1), (2, .int a2), (3, .int a3), (4, .int a4)] → W p l e (headSpec wsX9_within rX9_within).room s m ([.ref h0, .int p1, .int p2] : List Value).toArray below meth c s.heap [] 0 0 (MQ below (vp_Si (fun r => r = res)) ([.ref h0, .int p1, .int p2] : List Value).toArray s 0 0 (fun _ => False)) (F0 m 23 ls [])) → ∀ (a1 : Int32) (a2 : Int32) (a4 : Int32) (t0 : Int32) (ls : Array Slot), JX9_within_91 bo FI CO CR SI SR BO k23 a1 a2 a4 t0 = some res → lv_has ls 6 [(0, .ref h0), (1, .int a1), (2, .int a2), (4, .int a4)] → W p l e (headSpec wsX9_within rX9_within).room s m ([.ref h0, .int p1, .int p2] : List Value).toArray below meth c s.heap [] 0 0 (MQ below (vp_Si (fun r => r = res)) ([.ref h0, .int p1, .int p2] : List Value).toArray s 0 0 (fun _ => False)) (F0 m 91 ls [.int t0]) := by
    intro k23 hk23
    intro a1 a2 a4 t0 ls hF hl
    unfold JX9_within_91 at hF
    refine lv_istore_n (lv' := [(3, .int t0), (0, .ref h0), (1, .int a1), (2, .int a2), (4, .int a4)]) hx hb dX9_within_91 rfl hl (by decide) rfl (fun ls hl => ?_)
    refine lv_iinc (v := a4 + 1) (lv' := [(4, .int (a4 + 1)), (3, .int t0), (0, .ref h0), (1, .int a1), (2, .int a2)]) hx hb dX9_within_92 hl (k := 4) rfl rfl (by decide) rfl (fun ls hl => ?_)
    refine lv_goto (tgt := 23) hx hb dX9_within_95 (by decide) ?_
    exact hk23 a1 a2 t0 (a4 + 1) _ hF (lv_sub hl [2, 3, 4, 1, 0] rfl)
  have hJ90 : ∀ (k23 : Int32 → Int32 → Int32 → Int32 → Option (Int32)), (∀ (a1 : Int32) (a2 : Int32) (a3 : Int32) (a4 : Int32) (ls : Array Slot), k23 a1 a2 a3 a4 = some res → lv_has ls 6 [(0, .ref h0), (1, .int a1), (2, .int a2), (3, .int a3), (4, .int a4)] → W p l e (headSpec wsX9_within rX9_within).room s m ([.ref h0, .int p1, .int p2] : List Value).toArray below meth c s.heap [] 0 0 (MQ below (vp_Si (fun r => r = res)) ([.ref h0, .int p1, .int p2] : List Value).toArray s 0 0 (fun _ => False)) (F0 m 23 ls [])) → ∀ (a1 : Int32) (a2 : Int32) (a4 : Int32) (ls : Array Slot), JX9_within_90 bo FI CO CR SI SR BO k23 a1 a2 a4 = some res → lv_has ls 6 [(0, .ref h0), (1, .int a1), (2, .int a2), (4, .int a4)] → W p l e (headSpec wsX9_within rX9_within).room s m ([.ref h0, .int p1, .int p2] : List Value).toArray below meth c s.heap [] 0 0 (MQ below (vp_Si (fun r => r = res)) ([.ref h0, .int p1, .int p2] : List Value).toArray s 0 0 (fun _ => False)) (F0 m 90 ls []) := by
    intro k23 hk23
    intro a1 a2 a4 ls hF hl
    unfold JX9_within_90 at hF
    refine lv_iconst (v := 0) hx hb dX9_within_90 (by decide) ?_
    exact hJ91 _ hk23 a1 a2 a4 0 _ hF (lv_sub hl [0, 1, 2, 3] rfl)
  have hL23 : ∀ (k : Nat), ∀ (a1 : Int32) (a2 : Int32) (a3 : Int32) (a4 : Int32) (ls : Array Slot), LX9_within_23 bo FI CO CR SI SR BO k a1 a2 a3 a4 = some res → lv_has ls 6 [(0, .ref h0), (1, .int a1), (2, .int a2), (3, .int a3), (4, .int a4)] → W p l e (headSpec wsX9_within rX9_within).room s m ([.ref h0, .int p1, .int p2] : List Value).toArray below meth c s.heap [] 0 0 (MQ below (vp_Si (fun r => r = res)) ([.ref h0, .int p1, .int p2] : List Value).toArray s 0 0 (fun _ => False)) (F0 m 23 ls []) := by
    intro k
    induction k with
    | zero =>
      intro a1 a2 a3 a4 ls hF hl
      rw [LX9_within_23] at hF
      cases hF
    | succ k ih =>
      intro a1 a2 a3 a4 ls hF hl
      rw [LX9_within_23] at hF
      refine lv_iload hx hb dX9_within_23 (lv_at hl 4 rfl) ?_
      refine lv_aload_n hx hb dX9_within_25 rfl (lv_at hl 0 rfl) ?_
      refine va_get (ci := 9) (v := .ref qCO) (C := RX9) (T := TX9) (N := 24) hx hb hts hin9 hown hK hP 0 rfl rfl 7 (by decide) hfl26 (fun _ h9 => h9) rfl dX9_within_26 ?_
      refine lv_iload_n hx hb dX9_within_29 rfl (lv_at hl 1 rfl) ?_
      obtain ⟨hi_7, hF⟩ := gd_in_s hF
      refine va_iald hx hb hK hP 6 0 rfl rfl hi_7 dX9_within_30 ?_
      refine lv_icmp_ge (tgt := 98) hx hb dX9_within_31 (by decide) (fun c_8 => ?_) (fun c_8 => ?_)
      · replace hF := it_p c_8 hF
        refine lv_iload_n hx hb dX9_within_98 rfl (lv_at hl 3 rfl) ?_
        refine lv_if_eq (tgt := 106) hx hb dX9_within_99 (by decide) (fun c_9 => ?_) (fun c_9 => ?_)
        · replace hF := it_p c_9 hF
          refine lv_iconst (v := 0) hx hb dX9_within_106 (by decide) ?_
          exact W.iret (v := 0) hx hb hr  (fun t ht hW => ⟨0, rfl, (so_e hF), ht⟩) (fun q h => absurd h List.not_mem_nil) dX9_within_107
        · replace hF := it_n c_9 hF
          refine lv_iconst (v := 1) hx hb dX9_within_102 (by decide) ?_
          refine lv_goto (tgt := 107) hx hb dX9_within_103 (by decide) ?_
          exact W.iret (v := 1) hx hb hr  (fun t ht hW => ⟨1, rfl, (so_e hF), ht⟩) (fun q h => absurd h List.not_mem_nil) dX9_within_107
      · replace hF := it_n c_8 hF
        refine lv_bipush (v := 120) hx hb dX9_within_34 (by decide) ?_
        refine lv_iload_n hx hb dX9_within_36 rfl (lv_at hl 1 rfl) ?_
        refine lv_imul hx hb dX9_within_37 ?_
        refine lv_iconst (v := 3) hx hb dX9_within_38 (by decide) ?_
        refine lv_iload hx hb dX9_within_39 (lv_at hl 4 rfl) ?_
        refine lv_imul hx hb dX9_within_41 ?_
        refine lv_iadd hx hb dX9_within_42 ?_
        refine lv_istore (lv' := [(5, .int ((120 * a1) + (3 * a4))), (0, .ref h0), (1, .int a1), (2, .int a2), (3, .int a3), (4, .int a4)]) hx hb dX9_within_43 hl (by decide) rfl (fun ls hl => ?_)
        refine lv_iload_n hx hb dX9_within_45 rfl (lv_at hl 4 rfl) ?_
        refine lv_if_eq (tgt := 90) hx hb dX9_within_46 (by decide) (fun c_10 => ?_) (fun c_10 => ?_)
        · replace hF := it_p c_10 hF
          exact hJ90 _ ih a1 a2 a4 _ hF (lv_sub hl [1, 2, 3, 5] rfl)
        · replace hF := it_n c_10 hF
          refine lv_aload_n hx hb dX9_within_49 rfl (lv_at hl 1 rfl) ?_
          refine lv_iload_n hx hb dX9_within_50 rfl (lv_at hl 3 rfl) ?_
          refine lv_aload_n hx hb dX9_within_51 rfl (lv_at hl 1 rfl) ?_
          refine va_get (ci := 9) (v := .ref qCR) (C := RX9) (T := TX9) (N := 24) hx hb hts hin9 hown hK hP 0 rfl rfl 8 (by decide) hfl29 (fun _ h9 => h9) rfl dX9_within_52 ?_
          refine lv_iload hx hb dX9_within_55 (lv_at hl 0 rfl) ?_
          obtain ⟨hi_11, hF⟩ := gd_in_s hF
          refine va_iald hx hb hK hP 7 0 rfl rfl hi_11 dX9_within_57 ?_
          refine lv_i2l hx hb dX9_within_58 rfl ?_
          refine lv_aload_n hx hb dX9_within_59 rfl (lv_at hl 1 rfl) ?_
          refine va_get (ci := 9) (v := .ref qCR) (C := RX9) (T := TX9) (N := 24) hx hb hts hin9 hown hK hP 0 rfl rfl 8 (by decide) hfl29 (fun _ h9 => h9) rfl dX9_within_60 ?_
          refine lv_iload hx hb dX9_within_63 (lv_at hl 0 rfl) ?_
          refine lv_iconst (v := 1) hx hb dX9_within_65 (by decide) ?_
          refine lv_iadd hx hb dX9_within_66 ?_
          obtain ⟨hi_12, hF⟩ := gd_in_s hF
          refine va_iald hx hb hK hP 7 0 rfl rfl hi_12 dX9_within_67 ?_
          refine lv_i2l hx hb dX9_within_68 rfl ?_
          refine lv_aload_n hx hb dX9_within_69 rfl (lv_at hl 1 rfl) ?_
          refine va_get (ci := 9) (v := .ref qCR) (C := RX9) (T := TX9) (N := 24) hx hb hts hin9 hown hK hP 0 rfl rfl 8 (by decide) hfl29 (fun _ h9 => h9) rfl dX9_within_70 ?_
          refine lv_iload hx hb dX9_within_73 (lv_at hl 0 rfl) ?_
          refine lv_iconst (v := 2) hx hb dX9_within_75 (by decide) ?_
          refine lv_iadd hx hb dX9_within_76 ?_
          obtain ⟨hi_13, hF⟩ := gd_in_s hF
          refine va_iald hx hb hK hP 7 0 rfl rfl hi_13 dX9_within_77 ?_
          refine lv_i2l hx hb dX9_within_78 rfl ?_
          refine lv_lconst (v := 1) hx hb dX9_within_79 (by decide) ?_
          obtain ⟨v_14, hv_14, hF⟩ := bd_s hF
          refine ro_ie (va_runV (As := [.int a2, .long ((CR ((120 * a1) + (3 * a4)).toNatClampNeg).toInt64), .long ((CR (((120 * a1) + (3 * a4)) + 1).toNatClampNeg).toInt64), .long ((CR (((120 * a1) + (3 * a4)) + 2).toNatClampNeg).toInt64), .long 1]) (rest := []) ⟨hx, hb, hml, hown, hts⟩ (kX9_where l G h0 qDR qLA qLE qCE qFI qCO qCR qSI qSR qMO qBO qPX qPY qPZ qSX dr bo po sx sy sw tx ty tz DR LA LE CE FI CO CR SI SR MO BO PX PY PZ SX a2 ((CR ((120 * a1) + (3 * a4)).toNatClampNeg).toInt64) ((CR (((120 * a1) + (3 * a4)) + 1).toNatClampNeg).toInt64) ((CR (((120 * a1) + (3 * a4)) + 2).toNatClampNeg).toInt64) 1 v_14 hv_14) (cwV 5 hts gX9_within_X9_where rfl rfl rfl (by decide +kernel) ⟨Nat.le_of_ble_eq_true rfl, Nat.le_of_ble_eq_true rfl⟩) (pvR (q0 := 0) 9 hK (hP.sub (ws' := (wMod G h0 qDR qLA qLE qCE qFI qCO qCR qSI qSR qMO qBO qPX qPY qPZ qSX dr bo po sx sy sw tx ty tz DR LA LE CE FI CO CR SI SR MO BO PX PY PZ SX)) [0, 1, 2, 3, 4, 5, 6, 7, 8, 9, 10, 11, 12, 13, 14, 15] rfl) rfl rfl) rfl rfl hl.1 rfl (lv_room (Nat.le_of_ble_eq_true rfl)) dX9_within_80 ⟨Nat.le_of_ble_eq_true rfl, Nat.le_of_ble_eq_true rfl⟩) ?_
          refine lv_if_le (tgt := 90) hx hb dX9_within_83 (by decide) (fun c_15 => ?_) (fun c_15 => ?_)
          · replace hF := it_p c_15 hF
            exact hJ90 _ ih a1 a2 a4 _ hF (lv_sub hl [1, 2, 3, 5] rfl)
          · replace hF := it_n c_15 hF
            refine lv_iconst (v := 1) hx hb dX9_within_86 (by decide) ?_
            refine lv_goto (tgt := 91) hx hb dX9_within_87 (by decide) ?_
            exact hJ91 _ ih a1 a2 a4 1 _ hF (lv_sub hl [1, 2, 3, 5] rfl)
  unfold fX9_within at hF
  refine lv_aload_n hx hb dX9_within_0 rfl (lv_at hl 0 rfl) ?_
  refine lv_iload_n hx hb dX9_within_1 rfl (lv_at hl 1 rfl) ?_
  obtain ⟨v_1, hv_1, hF⟩ := bd_s hF
  refine ro_ze (va_runV (As := [.int p1]) (rest := []) ⟨hx, hb, hml, hown, hts⟩ (kX9_is l G h0 qDR qLA qLE qCE qFI qCO qCR qSI qSR qMO qBO qPX qPY qPZ qSX dr bo po sx sy sw tx ty tz DR LA LE CE FI CO CR SI SR MO BO PX PY PZ SX p1 v_1 hv_1) (cwV 1 hts gX9_within_X9_is rfl rfl rfl (by decide +kernel) ⟨Nat.le_of_ble_eq_true rfl, Nat.le_of_ble_eq_true rfl⟩) (pvR (q0 := 0) 9 hK (hP.sub (ws' := (wMod G h0 qDR qLA qLE qCE qFI qCO qCR qSI qSR qMO qBO qPX qPY qPZ qSX dr bo po sx sy sw tx ty tz DR LA LE CE FI CO CR SI SR MO BO PX PY PZ SX)) [0, 1, 2, 3, 4, 5, 6, 7, 8, 9, 10, 11, 12, 13, 14, 15] rfl) rfl rfl) rfl rfl hl.1 rfl (lv_room (Nat.le_of_ble_eq_true rfl)) dX9_within_2 ⟨Nat.le_of_ble_eq_true rfl, Nat.le_of_ble_eq_true rfl⟩) (fun hb_2 => ?_)
  refine lv_if_eq (tgt := 16) hx hb dX9_within_5 (by decide) (fun c_3 => ?_) (fun c_3 => ?_)
  · replace hF := it_p c_3 hF
    refine lv_iconst (v := (-1)) hx hb dX9_within_16 (by decide) ?_
    exact W.iret (v := (-1)) hx hb hr  (fun t ht hW => ⟨(-1), rfl, (so_e hF), ht⟩) (fun q h => absurd h List.not_mem_nil) dX9_within_17
  · replace hF := it_n c_3 hF
    refine lv_aload_n hx hb dX9_within_8 rfl (lv_at hl 0 rfl) ?_
    refine lv_iload_n hx hb dX9_within_9 rfl (lv_at hl 2 rfl) ?_
    obtain ⟨v_4, hv_4, hF⟩ := bd_s hF
    refine ro_ze (va_runV (As := [.int p2]) (rest := []) ⟨hx, hb, hml, hown, hts⟩ (kX9_is l G h0 qDR qLA qLE qCE qFI qCO qCR qSI qSR qMO qBO qPX qPY qPZ qSX dr bo po sx sy sw tx ty tz DR LA LE CE FI CO CR SI SR MO BO PX PY PZ SX p2 v_4 hv_4) (cwV 1 hts gX9_within_X9_is rfl rfl rfl (by decide +kernel) ⟨Nat.le_of_ble_eq_true rfl, Nat.le_of_ble_eq_true rfl⟩) (pvR (q0 := 0) 9 hK (hP.sub (ws' := (wMod G h0 qDR qLA qLE qCE qFI qCO qCR qSI qSR qMO qBO qPX qPY qPZ qSX dr bo po sx sy sw tx ty tz DR LA LE CE FI CO CR SI SR MO BO PX PY PZ SX)) [0, 1, 2, 3, 4, 5, 6, 7, 8, 9, 10, 11, 12, 13, 14, 15] rfl) rfl rfl) rfl rfl hl.1 rfl (lv_room (Nat.le_of_ble_eq_true rfl)) dX9_within_10 ⟨Nat.le_of_ble_eq_true rfl, Nat.le_of_ble_eq_true rfl⟩) (fun hb_5 => ?_)
    refine lv_if_ne (tgt := 18) hx hb dX9_within_13 (by decide) (fun c_6 => ?_) (fun c_6 => ?_)
    · replace hF := it_n c_6 hF
      refine lv_iconst (v := 1) hx hb dX9_within_18 (by decide) ?_
      refine lv_istore_n (lv' := [(3, .int 1), (0, .ref h0), (1, .int p1), (2, .int p2)]) hx hb dX9_within_19 rfl hl (by decide) rfl (fun ls hl => ?_)
      refine lv_iconst (v := 0) hx hb dX9_within_20 (by decide) ?_
      refine lv_istore (lv' := [(4, .int 0), (3, .int 1), (0, .ref h0), (1, .int p1), (2, .int p2)]) hx hb dX9_within_21 hl (by decide) rfl (fun ls hl => ?_)
      exact hL23 FU p1 p2 1 0 _ hF (lv_sub hl [2, 3, 4, 1, 0] rfl)
    · replace hF := it_p c_6 hF
      refine lv_iconst (v := (-1)) hx hb dX9_within_16 (by decide) ?_
      exact W.iret (v := (-1)) hx hb hr  (fun t ht hW => ⟨(-1), rfl, (so_e hF), ht⟩) (fun q h => absurd h List.not_mem_nil) dX9_within_17
def JX9_same_165 (bo : Int32) (CO : Nat → Int32) (CR : Nat → Int32)  (a3 : Int32) : Option (Int32) :=
  (if a3 = 0 then (some 0) else (some 1))
def JX9_same_152 (bo : Int32) (CO : Nat → Int32) (CR : Nat → Int32)  (a3 : Int32) (a4 : Int32) : Option (Int32) :=
  (if a4 = 0 then (JX9_same_165 bo CO CR a3) else (if a3 = 0 then (JX9_same_165 bo CO CR a3) else (some 2)))
def JX9_same_145 (bo : Int32) (CO : Nat → Int32) (CR : Nat → Int32) (k45 : Int32 → Int32 → Int32 → Int32 → Int32 → Option (Int32)) (a1 : Int32) (a2 : Int32) (a4 : Int32) (a5 : Int32) (t0 : Int32) : Option (Int32) :=
  (k45 a1 a2 t0 a4 (a5 + 1))
def JX9_same_104 (bo : Int32) (CO : Nat → Int32) (CR : Nat → Int32) (k45 : Int32 → Int32 → Int32 → Int32 → Int32 → Option (Int32)) (a1 : Int32) (a2 : Int32) (a5 : Int32) (a6 : Int32) (t0 : Int32) : Option (Int32) :=
  (gd_in ((120 * a1) + (a5 - a5 / 3 * 3)) 960 (gd_in ((120 * a2) + (a5 - a5 / 3 * 3)) 960 (if a6 = (CR ((120 * a1) + (a5 - a5 / 3 * 3)).toNatClampNeg) - (CR ((120 * a2) + (a5 - a5 / 3 * 3)).toNatClampNeg) then (JX9_same_145 bo CO CR k45 a1 a2 t0 a5 1) else (JX9_same_145 bo CO CR k45 a1 a2 t0 a5 0))))
def JX9_same_103 (bo : Int32) (CO : Nat → Int32) (CR : Nat → Int32) (k45 : Int32 → Int32 → Int32 → Int32 → Int32 → Option (Int32)) (a1 : Int32) (a2 : Int32) (a5 : Int32) (a6 : Int32) : Option (Int32) :=
  (JX9_same_104 bo CO CR k45 a1 a2 a5 a6 0)
def LX9_same_45 (bo : Int32) (CO : Nat → Int32) (CR : Nat → Int32)  : Nat → Int32 → Int32 → Int32 → Int32 → Int32 → Option (Int32)
  | 0, _, _, _, _, _ => none
  | k + 1, a1, a2, a3, a4, a5 =>
  (gd_in a1 8 (if 3 * (CO a1.toNatClampNeg) ≤ a5 then (JX9_same_152 bo CO CR a3 a4) else (if a3 = 0 then (JX9_same_152 bo CO CR a3 a4) else (gd_in ((120 * a1) + a5) 960 (gd_in ((120 * a2) + a5) 960 (cut ((CR ((120 * a1) + a5).toNatClampNeg) - (CR ((120 * a2) + a5).toNatClampNeg)) (fun c_18 => (if a4 = 0 then (JX9_same_103 bo CO CR (LX9_same_45 bo CO CR k) a1 a2 a5 c_18) else (if c_18 = 0 then (JX9_same_104 bo CO CR (LX9_same_45 bo CO CR k) a1 a2 a5 c_18 1) else (JX9_same_103 bo CO CR (LX9_same_45 bo CO CR k) a1 a2 a5 c_18))))))))))
def JX9_same_38 (bo : Int32) (CO : Nat → Int32) (CR : Nat → Int32)  (a1 : Int32) (a2 : Int32) (t0 : Int32) : Option (Int32) :=
  (LX9_same_45 bo CO CR FU a1 a2 t0 t0 0)
def fX9_same (bo : Int32) (CO : Nat → Int32) (CR : Nat → Int32) (p1 : Int32) (p2 : Int32) : Option (Int32) :=
  (bd (fX9_is bo p1) (fun v_1 => (if v_1 = 0 then (some (-1)) else (bd (fX9_is bo p2) (fun v_4 => (if v_4 = 0 then (some (-1)) else (gd_in p1 8 (gd_in p2 8 (if CO p1.toNatClampNeg = CO p2.toNatClampNeg then (JX9_same_38 bo CO CR p1 p2 1) else (JX9_same_38 bo CO CR p1 p2 0))))))))))
abbrev rX9_same : Room := { frames := 2, cells := 0, slots := 0, locals := 46 }
set_option maxHeartbeats 40000000 in
set_option maxRecDepth 100000 in
theorem kX9_same (l : Launch) (G : GT) (h0 qDR qLA qLE qCE qFI qCO qCR qSI qSR qMO qBO qPX qPY qPZ qSX : Nat) (dr : Int32) (bo : Int32) (po : Int32) (sx : Int32) (sy : Int32) (sw : Int32) (tx : Int32) (ty : Int32) (tz : Int32) (DR : Nat → Int32) (LA : Nat → Int32) (LE : Nat → Int32) (CE : Nat → Int64) (FI : Nat → Int32) (CO : Nat → Int32) (CR : Nat → Int32) (SI : Nat → Int32) (SR : Nat → Int32) (MO : Nat → Int32) (BO : Nat → Int32) (PX : Nat → Int32) (PY : Nat → Int32) (PZ : Nat → Int32) (SX : Nat → Int32) (p1 : Int32) (p2 : Int32) (res : Int32) (hF : fX9_same bo CO CR p1 p2 = some res) : Met l yX9_same wsX9_same rX9_same (va_Pc [.ref h0, .int p1, .int p2] (pR G (wMod G h0 qDR qLA qLE qCE qFI qCO qCR qSI qSR qMO qBO qPX qPY qPZ qSX dr bo po sx sy sw tx ty tz DR LA LE CE FI CO CR SI SR MO BO PX PY PZ SX))) (vp_Si (fun r => r = res)) 0 0 (fun _ => False) := by
  refine Met.ofW (cc := cX9_same) (maxL := 7) (ret := (some .int)) (by decide) rfl ?_
  intro p e s m args below meth c s₁ B hml hv
  obtain ⟨rfl, hP, hK⟩ := hv
  have hx := B.exec
  have hb := B.bytes
  have hr := B.returns
  have hts := atoms_spec (ws := wsX9_same) B.pre
  have hown : s.vm.findClass RX9 = some m.cls := findClass_of_methodNamed B.named
  have hlocks := B.notSynchronized
  have hin9 : ∀ w ∈ u_ws RX9 TX9 24, w ∈ wsX9_same := by decide +kernel
  have hfl26 := hts (.fieldLink RX9 26 "SwellBodiesModel" "corners" "[I") (by decide +kernel)
  have hfl29 := hts (.fieldLink RX9 29 "SwellBodiesModel" "cornerRow" "[I") (by decide +kernel)
  have hl := lv_entry ([.ref h0, .int p1, .int p2]) (n := 7) (Nat.le_of_ble_eq_true rfl)
  rw [lg_entry_eq]
  generalize (lg_sl ([.ref h0, .int p1, .int p2]) ++ List.replicate (7 - (lg_sl ([.ref h0, .int p1, .int p2])).length) Slot.unset).toArray = ls at hl ⊢
  have hl : lv_has ls 7 [(0, .ref h0), (1, .int p1), (2, .int p2)] := hl
  have hJ165 : ∀ (a3 : Int32) (ls : Array Slot), JX9_same_165 bo CO CR a3 = some res → lv_has ls 7 [(3, .int a3)] → W p l e (headSpec wsX9_same rX9_same).room s m ([.ref h0, .int p1, .int p2] : List Value).toArray below meth c s.heap [] 0 0 (MQ below (vp_Si (fun r => r = res)) ([.ref h0, .int p1, .int p2] : List Value).toArray s 0 0 (fun _ => False)) (F0 m 165 ls []) := by
    intro a3 ls hF hl
    unfold JX9_same_165 at hF
    refine lv_iload_n hx hb dX9_same_165 rfl (lv_at hl 0 rfl) ?_
    refine lv_if_eq (tgt := 173) hx hb dX9_same_166 (by decide) (fun c_13 => ?_) (fun c_13 => ?_)
    · replace hF := it_p c_13 hF
      refine lv_iconst (v := 0) hx hb dX9_same_173 (by decide) ?_
      exact W.iret (v := 0) hx hb hr  (fun t ht hW => ⟨0, rfl, (so_e hF), ht⟩) (fun q h => absurd h List.not_mem_nil) dX9_same_174
    · replace hF := it_n c_13 hF
      refine lv_iconst (v := 1) hx hb dX9_same_169 (by decide) ?_
      refine lv_goto (tgt := 174) hx hb dX9_same_170 (by decide) ?_
      exact W.iret (v := 1) hx hb hr  (fun t ht hW => ⟨1, rfl, (so_e hF), ht⟩) (fun q h => absurd h List.not_mem_nil) dX9_same_174
  have hJ152 : ∀ (a3 : Int32) (a4 : Int32) (ls : Array Slot), JX9_same_152 bo CO CR a3 a4 = some res → lv_has ls 7 [(3, .int a3), (4, .int a4)] → W p l e (headSpec wsX9_same rX9_same).room s m ([.ref h0, .int p1, .int p2] : List Value).toArray below meth c s.heap [] 0 0 (MQ below (vp_Si (fun r => r = res)) ([.ref h0, .int p1, .int p2] : List Value).toArray s 0 0 (fun _ => False)) (F0 m 152 ls []) := by
    intro a3 a4 ls hF hl
    unfold JX9_same_152 at hF
    refine lv_iload hx hb dX9_same_152 (lv_at hl 1 rfl) ?_
    refine lv_if_eq (tgt := 165) hx hb dX9_same_154 (by decide) (fun c_12 => ?_) (fun c_12 => ?_)
    · replace hF := it_p c_12 hF
      exact hJ165 a3 _ hF (lv_sub hl [0] rfl)
    · replace hF := it_n c_12 hF
      refine lv_iload_n hx hb dX9_same_157 rfl (lv_at hl 0 rfl) ?_
      refine lv_if_eq (tgt := 165) hx hb dX9_same_158 (by decide) (fun c_14 => ?_) (fun c_14 => ?_)
      · replace hF := it_p c_14 hF
        exact hJ165 a3 _ hF (lv_sub hl [0] rfl)
      · replace hF := it_n c_14 hF
        refine lv_iconst (v := 2) hx hb dX9_same_161 (by decide) ?_
        refine lv_goto (tgt := 174) hx hb dX9_same_162 (by decide) ?_
        exact W.iret (v := 2) hx hb hr  (fun t ht hW => ⟨2, rfl, (so_e hF), ht⟩) (fun q h => absurd h List.not_mem_nil) dX9_same_174
  have hJ145 : ∀ (k45 : Int32 → Int32 → Int32 → Int32 → Int32 → Option (Int32)), (∀ (a1 : Int32) (a2 : Int32) (a3 : Int32) (a4 : Int32) (a5 : Int32) (ls : Array Slot), k45 a1 a2 a3 a4 a5 = some res → lv_has ls 7 [(0, .ref h0), (1, .int a1), (2, .int a2), (3, .int a3), (4, .int a4), (5, .int a5)] → W p l e (headSpec wsX9_same rX9_same).room s m ([.ref h0, .int p1, .int p2] : List Value).toArray below meth c s.heap [] 0 0 (MQ below (vp_Si (fun r => r = res)) ([.ref h0, .int p1, .int p2] : List Value).toArray s 0 0 (fun _ => False)) (F0 m 45 ls [])) → ∀ (a1 : Int32) (a2 : Int32) (a4 : Int32) (a5 : Int32) (t0 : Int32) (ls : Array Slot), JX9_same_145 bo CO CR k45 a1 a2 a4 a5 t0 = some res → lv_has ls 7 [(0, .ref h0), (1, .int a1), (2, .int a2), (4, .int a4), (5, .int a5)] → W p l e (headSpec wsX9_same rX9_same).room s m ([.ref h0, .int p1, .int p2] : List Value).toArray below meth c s.heap [] 0 0 (MQ below (vp_Si (fun r => r = res)) ([.ref h0, .int p1, .int p2] : List Value).toArray s 0 0 (fun _ => False)) (F0 m 145 ls [.int t0]) := by
    intro k45 hk45
    intro a1 a2 a4 a5 t0 ls hF hl
    unfold JX9_same_145 at hF
    refine lv_istore_n (lv' := [(3, .int t0), (0, .ref h0), (1, .int a1), (2, .int a2), (4, .int a4), (5, .int a5)]) hx hb dX9_same_145 rfl hl (by decide) rfl (fun ls hl => ?_)
    refine lv_iinc (v := a5 + 1) (lv' := [(5, .int (a5 + 1)), (3, .int t0), (0, .ref h0), (1, .int a1), (2, .int a2), (4, .int a4)]) hx hb dX9_same_146 hl (k := 5) rfl rfl (by decide) rfl (fun ls hl => ?_)
    refine lv_goto (tgt := 45) hx hb dX9_same_149 (by decide) ?_
    exact hk45 a1 a2 t0 a4 (a5 + 1) _ hF (lv_sub hl [2, 3, 4, 1, 5, 0] rfl)
  have hJ104 : ∀ (k45 : Int32 → Int32 → Int32 → Int32 → Int32 → Option (Int32)), (∀ (a1 : Int32) (a2 : Int32) (a3 : Int32) (a4 : Int32) (a5 : Int32) (ls : Array Slot), k45 a1 a2 a3 a4 a5 = some res → lv_has ls 7 [(0, .ref h0), (1, .int a1), (2, .int a2), (3, .int a3), (4, .int a4), (5, .int a5)] → W p l e (headSpec wsX9_same rX9_same).room s m ([.ref h0, .int p1, .int p2] : List Value).toArray below meth c s.heap [] 0 0 (MQ below (vp_Si (fun r => r = res)) ([.ref h0, .int p1, .int p2] : List Value).toArray s 0 0 (fun _ => False)) (F0 m 45 ls [])) → ∀ (a1 : Int32) (a2 : Int32) (a5 : Int32) (a6 : Int32) (t0 : Int32) (ls : Array Slot), JX9_same_104 bo CO CR k45 a1 a2 a5 a6 t0 = some res → lv_has ls 7 [(0, .ref h0), (1, .int a1), (2, .int a2), (5, .int a5), (6, .int a6)] → W p l e (headSpec wsX9_same rX9_same).room s m ([.ref h0, .int p1, .int p2] : List Value).toArray below meth c s.heap [] 0 0 (MQ below (vp_Si (fun r => r = res)) ([.ref h0, .int p1, .int p2] : List Value).toArray s 0 0 (fun _ => False)) (F0 m 104 ls [.int t0]) := by
    intro k45 hk45
    intro a1 a2 a5 a6 t0 ls hF hl
    unfold JX9_same_104 at hF
    refine lv_istore (lv' := [(4, .int t0), (0, .ref h0), (1, .int a1), (2, .int a2), (5, .int a5), (6, .int a6)]) hx hb dX9_same_104 hl (by decide) rfl (fun ls hl => ?_)
    refine lv_iload hx hb dX9_same_106 (lv_at hl 5 rfl) ?_
    refine lv_aload_n hx hb dX9_same_108 rfl (lv_at hl 1 rfl) ?_
    refine va_get (ci := 9) (v := .ref qCR) (C := RX9) (T := TX9) (N := 24) hx hb hts hin9 hown hK hP 0 rfl rfl 8 (by decide) hfl29 (fun _ h9 => h9) rfl dX9_same_109 ?_
    refine lv_bipush (v := 120) hx hb dX9_same_112 (by decide) ?_
    refine lv_iload_n hx hb dX9_same_114 rfl (lv_at hl 2 rfl) ?_
    refine lv_imul hx hb dX9_same_115 ?_
    refine lv_iload hx hb dX9_same_116 (lv_at hl 4 rfl) ?_
    refine lv_iconst (v := 3) hx hb dX9_same_118 (by decide) ?_
    refine lv_irem hx hb dX9_same_119 (by decide) ?_
    refine lv_iadd hx hb dX9_same_120 ?_
    obtain ⟨hi_20, hF⟩ := gd_in_s hF
    refine va_iald hx hb hK hP 7 0 rfl rfl hi_20 dX9_same_121 ?_
    refine lv_aload_n hx hb dX9_same_122 rfl (lv_at hl 1 rfl) ?_
    refine va_get (ci := 9) (v := .ref qCR) (C := RX9) (T := TX9) (N := 24) hx hb hts hin9 hown hK hP 0 rfl rfl 8 (by decide) hfl29 (fun _ h9 => h9) rfl dX9_same_123 ?_
    refine lv_bipush (v := 120) hx hb dX9_same_126 (by decide) ?_
    refine lv_iload_n hx hb dX9_same_128 rfl (lv_at hl 3 rfl) ?_
    refine lv_imul hx hb dX9_same_129 ?_
    refine lv_iload hx hb dX9_same_130 (lv_at hl 4 rfl) ?_
    refine lv_iconst (v := 3) hx hb dX9_same_132 (by decide) ?_
    refine lv_irem hx hb dX9_same_133 (by decide) ?_
    refine lv_iadd hx hb dX9_same_134 ?_
    obtain ⟨hi_21, hF⟩ := gd_in_s hF
    refine va_iald hx hb hK hP 7 0 rfl rfl hi_21 dX9_same_135 ?_
    refine lv_isub hx hb dX9_same_136 ?_
    refine lv_icmp_ne (tgt := 144) hx hb dX9_same_137 (by decide) (fun c_22 => ?_) (fun c_22 => ?_)
    · replace hF := it_n c_22 hF
      refine lv_iconst (v := 0) hx hb dX9_same_144 (by decide) ?_
      exact hJ145 _ hk45 a1 a2 t0 a5 0 _ hF (lv_sub hl [1, 2, 3, 0, 4] rfl)
    · replace hF := it_p c_22 hF
      refine lv_iconst (v := 1) hx hb dX9_same_140 (by decide) ?_
      refine lv_goto (tgt := 145) hx hb dX9_same_141 (by decide) ?_
      exact hJ145 _ hk45 a1 a2 t0 a5 1 _ hF (lv_sub hl [1, 2, 3, 0, 4] rfl)
  have hJ103 : ∀ (k45 : Int32 → Int32 → Int32 → Int32 → Int32 → Option (Int32)), (∀ (a1 : Int32) (a2 : Int32) (a3 : Int32) (a4 : Int32) (a5 : Int32) (ls : Array Slot), k45 a1 a2 a3 a4 a5 = some res → lv_has ls 7 [(0, .ref h0), (1, .int a1), (2, .int a2), (3, .int a3), (4, .int a4), (5, .int a5)] → W p l e (headSpec wsX9_same rX9_same).room s m ([.ref h0, .int p1, .int p2] : List Value).toArray below meth c s.heap [] 0 0 (MQ below (vp_Si (fun r => r = res)) ([.ref h0, .int p1, .int p2] : List Value).toArray s 0 0 (fun _ => False)) (F0 m 45 ls [])) → ∀ (a1 : Int32) (a2 : Int32) (a5 : Int32) (a6 : Int32) (ls : Array Slot), JX9_same_103 bo CO CR k45 a1 a2 a5 a6 = some res → lv_has ls 7 [(0, .ref h0), (1, .int a1), (2, .int a2), (5, .int a5), (6, .int a6)] → W p l e (headSpec wsX9_same rX9_same).room s m ([.ref h0, .int p1, .int p2] : List Value).toArray below meth c s.heap [] 0 0 (MQ below (vp_Si (fun r => r = res)) ([.ref h0, .int p1, .int p2] : List Value).toArray s 0 0 (fun _ => False)) (F0 m 103 ls []) := by
    intro k45 hk45
    intro a1 a2 a5 a6 ls hF hl
    unfold JX9_same_103 at hF
    refine lv_iconst (v := 0) hx hb dX9_same_103 (by decide) ?_
    exact hJ104 _ hk45 a1 a2 a5 a6 0 _ hF (lv_sub hl [0, 1, 2, 3, 4] rfl)
  have hL45 : ∀ (k : Nat), ∀ (a1 : Int32) (a2 : Int32) (a3 : Int32) (a4 : Int32) (a5 : Int32) (ls : Array Slot), LX9_same_45 bo CO CR k a1 a2 a3 a4 a5 = some res → lv_has ls 7 [(0, .ref h0), (1, .int a1), (2, .int a2), (3, .int a3), (4, .int a4), (5, .int a5)] → W p l e (headSpec wsX9_same rX9_same).room s m ([.ref h0, .int p1, .int p2] : List Value).toArray below meth c s.heap [] 0 0 (MQ below (vp_Si (fun r => r = res)) ([.ref h0, .int p1, .int p2] : List Value).toArray s 0 0 (fun _ => False)) (F0 m 45 ls []) := by
    intro k
    induction k with
    | zero =>
      intro a1 a2 a3 a4 a5 ls hF hl
      rw [LX9_same_45] at hF
      cases hF
    | succ k ih =>
      intro a1 a2 a3 a4 a5 ls hF hl
      rw [LX9_same_45] at hF
      refine lv_iload hx hb dX9_same_45 (lv_at hl 5 rfl) ?_
      refine lv_iconst (v := 3) hx hb dX9_same_47 (by decide) ?_
      refine lv_aload_n hx hb dX9_same_48 rfl (lv_at hl 0 rfl) ?_
      refine va_get (ci := 9) (v := .ref qCO) (C := RX9) (T := TX9) (N := 24) hx hb hts hin9 hown hK hP 0 rfl rfl 7 (by decide) hfl26 (fun _ h9 => h9) rfl dX9_same_49 ?_
      refine lv_iload_n hx hb dX9_same_52 rfl (lv_at hl 1 rfl) ?_
      obtain ⟨hi_10, hF⟩ := gd_in_s hF
      refine va_iald hx hb hK hP 6 0 rfl rfl hi_10 dX9_same_53 ?_
      refine lv_imul hx hb dX9_same_54 ?_
      refine lv_icmp_ge (tgt := 152) hx hb dX9_same_55 (by decide) (fun c_11 => ?_) (fun c_11 => ?_)
      · replace hF := it_p c_11 hF
        exact hJ152 a3 a4 _ hF (lv_sub hl [3, 4] rfl)
      · replace hF := it_n c_11 hF
        refine lv_iload_n hx hb dX9_same_58 rfl (lv_at hl 3 rfl) ?_
        refine lv_if_eq (tgt := 152) hx hb dX9_same_59 (by decide) (fun c_15 => ?_) (fun c_15 => ?_)
        · replace hF := it_p c_15 hF
          exact hJ152 a3 a4 _ hF (lv_sub hl [3, 4] rfl)
        · replace hF := it_n c_15 hF
          refine lv_aload_n hx hb dX9_same_62 rfl (lv_at hl 0 rfl) ?_
          refine va_get (ci := 9) (v := .ref qCR) (C := RX9) (T := TX9) (N := 24) hx hb hts hin9 hown hK hP 0 rfl rfl 8 (by decide) hfl29 (fun _ h9 => h9) rfl dX9_same_63 ?_
          refine lv_bipush (v := 120) hx hb dX9_same_66 (by decide) ?_
          refine lv_iload_n hx hb dX9_same_68 rfl (lv_at hl 1 rfl) ?_
          refine lv_imul hx hb dX9_same_69 ?_
          refine lv_iload hx hb dX9_same_70 (lv_at hl 5 rfl) ?_
          refine lv_iadd hx hb dX9_same_72 ?_
          obtain ⟨hi_16, hF⟩ := gd_in_s hF
          refine va_iald hx hb hK hP 7 0 rfl rfl hi_16 dX9_same_73 ?_
          refine lv_aload_n hx hb dX9_same_74 rfl (lv_at hl 0 rfl) ?_
          refine va_get (ci := 9) (v := .ref qCR) (C := RX9) (T := TX9) (N := 24) hx hb hts hin9 hown hK hP 0 rfl rfl 8 (by decide) hfl29 (fun _ h9 => h9) rfl dX9_same_75 ?_
          refine lv_bipush (v := 120) hx hb dX9_same_78 (by decide) ?_
          refine lv_iload_n hx hb dX9_same_80 rfl (lv_at hl 2 rfl) ?_
          refine lv_imul hx hb dX9_same_81 ?_
          refine lv_iload hx hb dX9_same_82 (lv_at hl 5 rfl) ?_
          refine lv_iadd hx hb dX9_same_84 ?_
          obtain ⟨hi_17, hF⟩ := gd_in_s hF
          refine va_iald hx hb hK hP 7 0 rfl rfl hi_17 dX9_same_85 ?_
          refine lv_isub hx hb dX9_same_86 ?_
          refine lv_topi (fun c_18 ec_18 => ?_)
          replace hF := cut_at ec_18 hF
          refine lv_istore (lv' := [(6, .int c_18), (0, .ref h0), (1, .int a1), (2, .int a2), (3, .int a3), (4, .int a4), (5, .int a5)]) hx hb dX9_same_87 hl (by decide) rfl (fun ls hl => ?_)
          refine lv_iload hx hb dX9_same_89 (lv_at hl 5 rfl) ?_
          refine lv_if_eq (tgt := 103) hx hb dX9_same_91 (by decide) (fun c_19 => ?_) (fun c_19 => ?_)
          · replace hF := it_p c_19 hF
            exact hJ103 _ ih a1 a2 a5 c_18 _ hF (lv_sub hl [1, 2, 3, 6, 0] rfl)
          · replace hF := it_n c_19 hF
            refine lv_iload hx hb dX9_same_94 (lv_at hl 0 rfl) ?_
            refine lv_if_ne (tgt := 103) hx hb dX9_same_96 (by decide) (fun c_23 => ?_) (fun c_23 => ?_)
            · replace hF := it_n c_23 hF
              exact hJ103 _ ih a1 a2 a5 c_18 _ hF (lv_sub hl [1, 2, 3, 6, 0] rfl)
            · replace hF := it_p c_23 hF
              refine lv_iconst (v := 1) hx hb dX9_same_99 (by decide) ?_
              refine lv_goto (tgt := 104) hx hb dX9_same_100 (by decide) ?_
              exact hJ104 _ ih a1 a2 a5 c_18 1 _ hF (lv_sub hl [1, 2, 3, 6, 0] rfl)
  have hJ38 : ∀ (a1 : Int32) (a2 : Int32) (t0 : Int32) (ls : Array Slot), JX9_same_38 bo CO CR a1 a2 t0 = some res → lv_has ls 7 [(0, .ref h0), (1, .int a1), (2, .int a2)] → W p l e (headSpec wsX9_same rX9_same).room s m ([.ref h0, .int p1, .int p2] : List Value).toArray below meth c s.heap [] 0 0 (MQ below (vp_Si (fun r => r = res)) ([.ref h0, .int p1, .int p2] : List Value).toArray s 0 0 (fun _ => False)) (F0 m 38 ls [.int t0]) := by
    intro a1 a2 t0 ls hF hl
    unfold JX9_same_38 at hF
    refine lv_istore_n (lv' := [(3, .int t0), (0, .ref h0), (1, .int a1), (2, .int a2)]) hx hb dX9_same_38 rfl hl (by decide) rfl (fun ls hl => ?_)
    refine lv_iload_n hx hb dX9_same_39 rfl (lv_at hl 0 rfl) ?_
    refine lv_istore (lv' := [(4, .int t0), (3, .int t0), (0, .ref h0), (1, .int a1), (2, .int a2)]) hx hb dX9_same_40 hl (by decide) rfl (fun ls hl => ?_)
    refine lv_iconst (v := 0) hx hb dX9_same_42 (by decide) ?_
    refine lv_istore (lv' := [(5, .int 0), (4, .int t0), (3, .int t0), (0, .ref h0), (1, .int a1), (2, .int a2)]) hx hb dX9_same_43 hl (by decide) rfl (fun ls hl => ?_)
    exact hL45 FU a1 a2 t0 t0 0 _ hF (lv_sub hl [3, 4, 5, 2, 1, 0] rfl)
  unfold fX9_same at hF
  refine lv_aload_n hx hb dX9_same_0 rfl (lv_at hl 0 rfl) ?_
  refine lv_iload_n hx hb dX9_same_1 rfl (lv_at hl 1 rfl) ?_
  obtain ⟨v_1, hv_1, hF⟩ := bd_s hF
  refine ro_ze (va_runV (As := [.int p1]) (rest := []) ⟨hx, hb, hml, hown, hts⟩ (kX9_is l G h0 qDR qLA qLE qCE qFI qCO qCR qSI qSR qMO qBO qPX qPY qPZ qSX dr bo po sx sy sw tx ty tz DR LA LE CE FI CO CR SI SR MO BO PX PY PZ SX p1 v_1 hv_1) (cwV 1 hts gX9_same_X9_is rfl rfl rfl (by decide +kernel) ⟨Nat.le_of_ble_eq_true rfl, Nat.le_of_ble_eq_true rfl⟩) (pvR (q0 := 0) 9 hK (hP.sub (ws' := (wMod G h0 qDR qLA qLE qCE qFI qCO qCR qSI qSR qMO qBO qPX qPY qPZ qSX dr bo po sx sy sw tx ty tz DR LA LE CE FI CO CR SI SR MO BO PX PY PZ SX)) [0, 1, 2, 3, 4, 5, 6, 7, 8, 9, 10, 11, 12, 13, 14, 15] rfl) rfl rfl) rfl rfl hl.1 rfl (lv_room (Nat.le_of_ble_eq_true rfl)) dX9_same_2 ⟨Nat.le_of_ble_eq_true rfl, Nat.le_of_ble_eq_true rfl⟩) (fun hb_2 => ?_)
  refine lv_if_eq (tgt := 16) hx hb dX9_same_5 (by decide) (fun c_3 => ?_) (fun c_3 => ?_)
  · replace hF := it_p c_3 hF
    refine lv_iconst (v := (-1)) hx hb dX9_same_16 (by decide) ?_
    exact W.iret (v := (-1)) hx hb hr  (fun t ht hW => ⟨(-1), rfl, (so_e hF), ht⟩) (fun q h => absurd h List.not_mem_nil) dX9_same_17
  · replace hF := it_n c_3 hF
    refine lv_aload_n hx hb dX9_same_8 rfl (lv_at hl 0 rfl) ?_
    refine lv_iload_n hx hb dX9_same_9 rfl (lv_at hl 2 rfl) ?_
    obtain ⟨v_4, hv_4, hF⟩ := bd_s hF
    refine ro_ze (va_runV (As := [.int p2]) (rest := []) ⟨hx, hb, hml, hown, hts⟩ (kX9_is l G h0 qDR qLA qLE qCE qFI qCO qCR qSI qSR qMO qBO qPX qPY qPZ qSX dr bo po sx sy sw tx ty tz DR LA LE CE FI CO CR SI SR MO BO PX PY PZ SX p2 v_4 hv_4) (cwV 1 hts gX9_same_X9_is rfl rfl rfl (by decide +kernel) ⟨Nat.le_of_ble_eq_true rfl, Nat.le_of_ble_eq_true rfl⟩) (pvR (q0 := 0) 9 hK (hP.sub (ws' := (wMod G h0 qDR qLA qLE qCE qFI qCO qCR qSI qSR qMO qBO qPX qPY qPZ qSX dr bo po sx sy sw tx ty tz DR LA LE CE FI CO CR SI SR MO BO PX PY PZ SX)) [0, 1, 2, 3, 4, 5, 6, 7, 8, 9, 10, 11, 12, 13, 14, 15] rfl) rfl rfl) rfl rfl hl.1 rfl (lv_room (Nat.le_of_ble_eq_true rfl)) dX9_same_10 ⟨Nat.le_of_ble_eq_true rfl, Nat.le_of_ble_eq_true rfl⟩) (fun hb_5 => ?_)
    refine lv_if_ne (tgt := 18) hx hb dX9_same_13 (by decide) (fun c_6 => ?_) (fun c_6 => ?_)
    · replace hF := it_n c_6 hF
      refine lv_aload_n hx hb dX9_same_18 rfl (lv_at hl 0 rfl) ?_
      refine va_get (ci := 9) (v := .ref qCO) (C := RX9) (T := TX9) (N := 24) hx hb hts hin9 hown hK hP 0 rfl rfl 7 (by decide) hfl26 (fun _ h9 => h9) rfl dX9_same_19 ?_
      refine lv_iload_n hx hb dX9_same_22 rfl (lv_at hl 1 rfl) ?_
      obtain ⟨hi_7, hF⟩ := gd_in_s hF
      refine va_iald hx hb hK hP 6 0 rfl rfl hi_7 dX9_same_23 ?_
      refine lv_aload_n hx hb dX9_same_24 rfl (lv_at hl 0 rfl) ?_
      refine va_get (ci := 9) (v := .ref qCO) (C := RX9) (T := TX9) (N := 24) hx hb hts hin9 hown hK hP 0 rfl rfl 7 (by decide) hfl26 (fun _ h9 => h9) rfl dX9_same_25 ?_
      refine lv_iload_n hx hb dX9_same_28 rfl (lv_at hl 2 rfl) ?_
      obtain ⟨hi_8, hF⟩ := gd_in_s hF
      refine va_iald hx hb hK hP 6 0 rfl rfl hi_8 dX9_same_29 ?_
      refine lv_icmp_ne (tgt := 37) hx hb dX9_same_30 (by decide) (fun c_9 => ?_) (fun c_9 => ?_)
      · replace hF := it_n c_9 hF
        refine lv_iconst (v := 0) hx hb dX9_same_37 (by decide) ?_
        exact hJ38 p1 p2 0 _ hF (lv_sub hl [0, 1, 2] rfl)
      · replace hF := it_p c_9 hF
        refine lv_iconst (v := 1) hx hb dX9_same_33 (by decide) ?_
        refine lv_goto (tgt := 38) hx hb dX9_same_34 (by decide) ?_
        exact hJ38 p1 p2 1 _ hF (lv_sub hl [0, 1, 2] rfl)
    · replace hF := it_p c_6 hF
      refine lv_iconst (v := (-1)) hx hb dX9_same_16 (by decide) ?_
      exact W.iret (v := (-1)) hx hb hr  (fun t ht hW => ⟨(-1), rfl, (so_e hF), ht⟩) (fun q h => absurd h List.not_mem_nil) dX9_same_17
def JX9_most_152 (bo : Int32) (CO : Nat → Int32) (CR : Nat → Int32) (k60 : Int32 → Int32 → Int32 → Int32 → Int32 → Int32 → Int32 → Option (Int32)) (a1 : Int32) (a2 : Int32) (a3 : Int32) (a4 : Int32) (a5 : Int32) (a7 : Int32) (t0 : Int32) : Option (Int32) :=
  (k60 a1 a2 a3 a4 a5 t0 (a7 + 1))
def JX9_most_145 (bo : Int32) (CO : Nat → Int32) (CR : Nat → Int32) (k60 : Int32 → Int32 → Int32 → Int32 → Int32 → Int32 → Int32 → Option (Int32)) (a1 : Int32) (a2 : Int32) (a3 : Int32) (a4 : Int32) (a5 : Int32) (a7 : Int32) (a9 : Int32) : Option (Int32) :=
  (JX9_most_152 bo CO CR k60 a1 a2 a3 a4 a5 a7 a9)
def JX9_most_150 (bo : Int32) (CO : Nat → Int32) (CR : Nat → Int32) (k60 : Int32 → Int32 → Int32 → Int32 → Int32 → Int32 → Int32 → Option (Int32)) (a1 : Int32) (a2 : Int32) (a3 : Int32) (a4 : Int32) (a5 : Int32) (a6 : Int32) (a7 : Int32) : Option (Int32) :=
  (JX9_most_152 bo CO CR k60 a1 a2 a3 a4 a5 a7 a6)
def LX9_most_60 (bo : Int32) (CO : Nat → Int32) (CR : Nat → Int32)  : Nat → Int32 → Int32 → Int32 → Int32 → Int32 → Int32 → Int32 → Option (Int32)
  | 0, _, _, _, _, _, _, _ => none
  | k + 1, a1, a2, a3, a4, a5, a6, a7 =>
  (gd_in a1 8 (if CO a1.toNatClampNeg ≤ a7 then (some a6) else (gd_in ((120 * a1) + (3 * a7)) 960 (gd_in (((120 * a1) + (3 * a7)) + 1) 960 (gd_in (((120 * a1) + (3 * a7)) + 2) 960 (cut (((a2 * (CR ((120 * a1) + (3 * a7)).toNatClampNeg)) + (a3 * (CR (((120 * a1) + (3 * a7)) + 1).toNatClampNeg))) + (a4 * (CR (((120 * a1) + (3 * a7)) + 2).toNatClampNeg))) (fun c_18 => (if a7 = 0 then (JX9_most_145 bo CO CR (LX9_most_60 bo CO CR k) a1 a2 a3 a4 a5 a7 c_18) else (if a5 = 0 then (if a6 ≤ c_18 then (JX9_most_150 bo CO CR (LX9_most_60 bo CO CR k) a1 a2 a3 a4 a5 a6 a7) else (JX9_most_145 bo CO CR (LX9_most_60 bo CO CR k) a1 a2 a3 a4 a5 a7 c_18)) else (if c_18 ≤ a6 then (JX9_most_150 bo CO CR (LX9_most_60 bo CO CR k) a1 a2 a3 a4 a5 a6 a7) else (JX9_most_145 bo CO CR (LX9_most_60 bo CO CR k) a1 a2 a3 a4 a5 a7 c_18)))))))))))
def fX9_most (bo : Int32) (CO : Nat → Int32) (CR : Nat → Int32) (p1 : Int32) (p2 : Int32) (p3 : Int32) (p4 : Int32) (p5 : Int32) : Option (Int32) :=
  (bd (fX9_is bo p1) (fun v_1 => (if v_1 = 0 then (some (-1000000)) else (bd (fX9_in p2.toInt64 (-100) 100) (fun v_4 => (if v_4 = 0 then (some (-1000000)) else (bd (fX9_in p3.toInt64 (-100) 100) (fun v_7 => (if v_7 = 0 then (some (-1000000)) else (bd (fX9_in p4.toInt64 (-100) 100) (fun v_10 => (if v_10 = 0 then (some (-1000000)) else (LX9_most_60 bo CO CR FU p1 p2 p3 p4 p5 0 0)))))))))))))
abbrev rX9_most : Room := { frames := 2, cells := 0, slots := 0, locals := 46 }
set_option maxHeartbeats 40000000 in
set_option maxRecDepth 100000 in
theorem kX9_most (l : Launch) (G : GT) (h0 qDR qLA qLE qCE qFI qCO qCR qSI qSR qMO qBO qPX qPY qPZ qSX : Nat) (dr : Int32) (bo : Int32) (po : Int32) (sx : Int32) (sy : Int32) (sw : Int32) (tx : Int32) (ty : Int32) (tz : Int32) (DR : Nat → Int32) (LA : Nat → Int32) (LE : Nat → Int32) (CE : Nat → Int64) (FI : Nat → Int32) (CO : Nat → Int32) (CR : Nat → Int32) (SI : Nat → Int32) (SR : Nat → Int32) (MO : Nat → Int32) (BO : Nat → Int32) (PX : Nat → Int32) (PY : Nat → Int32) (PZ : Nat → Int32) (SX : Nat → Int32) (p1 : Int32) (p2 : Int32) (p3 : Int32) (p4 : Int32) (p5 : Int32) (res : Int32) (hF : fX9_most bo CO CR p1 p2 p3 p4 p5 = some res) : Met l yX9_most wsX9_most rX9_most (va_Pc [.ref h0, .int p1, .int p2, .int p3, .int p4, .int p5] (pR G (wMod G h0 qDR qLA qLE qCE qFI qCO qCR qSI qSR qMO qBO qPX qPY qPZ qSX dr bo po sx sy sw tx ty tz DR LA LE CE FI CO CR SI SR MO BO PX PY PZ SX))) (vp_Si (fun r => r = res)) 0 0 (fun _ => False) := by
  refine Met.ofW (cc := cX9_most) (maxL := 10) (ret := (some .int)) (by decide) rfl ?_
  intro p e s m args below meth c s₁ B hml hv
  obtain ⟨rfl, hP, hK⟩ := hv
  have hx := B.exec
  have hb := B.bytes
  have hr := B.returns
  have hts := atoms_spec (ws := wsX9_most) B.pre
  have hown : s.vm.findClass RX9 = some m.cls := findClass_of_methodNamed B.named
  have hlocks := B.notSynchronized
  have hcn177 := hts (.constant RX9 177 (-1000000)) (by decide +kernel)
  have hcn209 := hts (.constantLong RX9 209 (-100)) (by decide +kernel)
  have hcn211 := hts (.constantLong RX9 211 (100)) (by decide +kernel)
  have hin9 : ∀ w ∈ u_ws RX9 TX9 24, w ∈ wsX9_most := by decide +kernel
  have hfl26 := hts (.fieldLink RX9 26 "SwellBodiesModel" "corners" "[I") (by decide +kernel)
  have hfl29 := hts (.fieldLink RX9 29 "SwellBodiesModel" "cornerRow" "[I") (by decide +kernel)
  have hl := lv_entry ([.ref h0, .int p1, .int p2, .int p3, .int p4, .int p5]) (n := 10) (Nat.le_of_ble_eq_true rfl)
  rw [lg_entry_eq]
  generalize (lg_sl ([.ref h0, .int p1, .int p2, .int p3, .int p4, .int p5]) ++ List.replicate (10 - (lg_sl ([.ref h0, .int p1, .int p2, .int p3, .int p4, .int p5])).length) Slot.unset).toArray = ls at hl ⊢
  have hl : lv_has ls 10 [(0, .ref h0), (1, .int p1), (2, .int p2), (3, .int p3), (4, .int p4), (5, .int p5)] := hl
  have hJ152 : ∀ (k60 : Int32 → Int32 → Int32 → Int32 → Int32 → Int32 → Int32 → Option (Int32)), (∀ (a1 : Int32) (a2 : Int32) (a3 : Int32) (a4 : Int32) (a5 : Int32) (a6 : Int32) (a7 : Int32) (ls : Array Slot), k60 a1 a2 a3 a4 a5 a6 a7 = some res → lv_has ls 10 [(0, .ref h0), (1, .int a1), (2, .int a2), (3, .int a3), (4, .int a4), (5, .int a5), (6, .int a6), (7, .int a7)] → W p l e (headSpec wsX9_most rX9_most).room s m ([.ref h0, .int p1, .int p2, .int p3, .int p4, .int p5] : List Value).toArray below meth c s.heap [] 0 0 (MQ below (vp_Si (fun r => r = res)) ([.ref h0, .int p1, .int p2, .int p3, .int p4, .int p5] : List Value).toArray s 0 0 (fun _ => False)) (F0 m 60 ls [])) → ∀ (a1 : Int32) (a2 : Int32) (a3 : Int32) (a4 : Int32) (a5 : Int32) (a7 : Int32) (t0 : Int32) (ls : Array Slot), JX9_most_152 bo CO CR k60 a1 a2 a3 a4 a5 a7 t0 = some res → lv_has ls 10 [(0, .ref h0), (1, .int a1), (2, .int a2), (3, .int a3), (4, .int a4), (5, .int a5), (7, .int a7)] → W p l e (headSpec wsX9_most rX9_most).room s m ([.ref h0, .int p1, .int p2, .int p3, .int p4, .int p5] : List Value).toArray below meth c s.heap [] 0 0 (MQ below (vp_Si (fun r => r = res)) ([.ref h0, .int p1, .int p2, .int p3, .int p4, .int p5] : List Value).toArray s 0 0 (fun _ => False)) (F0 m 152 ls [.int t0]) := by
    intro k60 hk60
    intro a1 a2 a3 a4 a5 a7 t0 ls hF hl
    unfold JX9_most_152 at hF
    refine lv_istore (lv' := [(6, .int t0), (0, .ref h0), (1, .int a1), (2, .int a2), (3, .int a3), (4, .int a4), (5, .int a5), (7, .int a7)]) hx hb dX9_most_152 hl (by decide) rfl (fun ls hl => ?_)
    refine lv_iinc (v := a7 + 1) (lv' := [(7, .int (a7 + 1)), (6, .int t0), (0, .ref h0), (1, .int a1), (2, .int a2), (3, .int a3), (4, .int a4), (5, .int a5)]) hx hb dX9_most_154 hl (k := 7) rfl rfl (by decide) rfl (fun ls hl => ?_)
    refine lv_goto (tgt := 60) hx hb dX9_most_157 (by decide) ?_
    exact hk60 a1 a2 a3 a4 a5 t0 (a7 + 1) _ hF (lv_sub hl [2, 3, 4, 5, 6, 7, 1, 0] rfl)
  have hJ145 : ∀ (k60 : Int32 → Int32 → Int32 → Int32 → Int32 → Int32 → Int32 → Option (Int32)), (∀ (a1 : Int32) (a2 : Int32) (a3 : Int32) (a4 : Int32) (a5 : Int32) (a6 : Int32) (a7 : Int32) (ls : Array Slot), k60 a1 a2 a3 a4 a5 a6 a7 = some res → lv_has ls 10 [(0, .ref h0), (1, .int a1), (2, .int a2), (3, .int a3), (4, .int a4), (5, .int a5), (6, .int a6), (7, .int a7)] → W p l e (headSpec wsX9_most rX9_most).room s m ([.ref h0, .int p1, .int p2, .int p3, .int p4, .int p5] : List Value).toArray below meth c s.heap [] 0 0 (MQ below (vp_Si (fun r => r = res)) ([.ref h0, .int p1, .int p2, .int p3, .int p4, .int p5] : List Value).toArray s 0 0 (fun _ => False)) (F0 m 60 ls [])) → ∀ (a1 : Int32) (a2 : Int32) (a3 : Int32) (a4 : Int32) (a5 : Int32) (a7 : Int32) (a9 : Int32) (ls : Array Slot), JX9_most_145 bo CO CR k60 a1 a2 a3 a4 a5 a7 a9 = some res → lv_has ls 10 [(0, .ref h0), (1, .int a1), (2, .int a2), (3, .int a3), (4, .int a4), (5, .int a5), (7, .int a7), (9, .int a9)] → W p l e (headSpec wsX9_most rX9_most).room s m ([.ref h0, .int p1, .int p2, .int p3, .int p4, .int p5] : List Value).toArray below meth c s.heap [] 0 0 (MQ below (vp_Si (fun r => r = res)) ([.ref h0, .int p1, .int p2, .int p3, .int p4, .int p5] : List Value).toArray s 0 0 (fun _ => False)) (F0 m 145 ls []) := by
    intro k60 hk60
    intro a1 a2 a3 a4 a5 a7 a9 ls hF hl
    unfold JX9_most_145 at hF
    refine lv_iload hx hb dX9_most_145 (lv_at hl 7 rfl) ?_
    refine lv_goto (tgt := 152) hx hb dX9_most_147 (by decide) ?_
    exact hJ152 _ hk60 a1 a2 a3 a4 a5 a7 a9 _ hF (lv_sub hl [0, 1, 2, 3, 4, 5, 6] rfl)
  have hJ150 : ∀ (k60 : Int32 → Int32 → Int32 → Int32 → Int32 → Int32 → Int32 → Option (Int32)), (∀ (a1 : Int32) (a2 : Int32) (a3 : Int32) (a4 : Int32) (a5 : Int32) (a6 : Int32) (a7 : Int32) (ls : Array Slot), k60 a1 a2 a3 a4 a5 a6 a7 = some res → lv_has ls 10 [(0, .ref h0), (1, .int a1), (2, .int a2), (3, .int a3), (4, .int a4), (5, .int a5), (6, .int a6), (7, .int a7)] → W p l e (headSpec wsX9_most rX9_most).room s m ([.ref h0, .int p1, .int p2, .int p3, .int p4, .int p5] : List Value).toArray below meth c s.heap [] 0 0 (MQ below (vp_Si (fun r => r = res)) ([.ref h0, .int p1, .int p2, .int p3, .int p4, .int p5] : List Value).toArray s 0 0 (fun _ => False)) (F0 m 60 ls [])) → ∀ (a1 : Int32) (a2 : Int32) (a3 : Int32) (a4 : Int32) (a5 : Int32) (a6 : Int32) (a7 : Int32) (ls : Array Slot), JX9_most_150 bo CO CR k60 a1 a2 a3 a4 a5 a6 a7 = some res → lv_has ls 10 [(0, .ref h0), (1, .int a1), (2, .int a2), (3, .int a3), (4, .int a4), (5, .int a5), (6, .int a6), (7, .int a7)] → W p l e (headSpec wsX9_most rX9_most).room s m ([.ref h0, .int p1, .int p2, .int p3, .int p4, .int p5] : List Value).toArray below meth c s.heap [] 0 0 (MQ below (vp_Si (fun r => r = res)) ([.ref h0, .int p1, .int p2, .int p3, .int p4, .int p5] : List Value).toArray s 0 0 (fun _ => False)) (F0 m 150 ls []) := by
    intro k60 hk60
    intro a1 a2 a3 a4 a5 a6 a7 ls hF hl
    unfold JX9_most_150 at hF
    refine lv_iload hx hb dX9_most_150 (lv_at hl 6 rfl) ?_
    exact hJ152 _ hk60 a1 a2 a3 a4 a5 a7 a6 _ hF (lv_sub hl [0, 1, 2, 3, 4, 5, 7] rfl)
  have hL60 : ∀ (k : Nat), ∀ (a1 : Int32) (a2 : Int32) (a3 : Int32) (a4 : Int32) (a5 : Int32) (a6 : Int32) (a7 : Int32) (ls : Array Slot), LX9_most_60 bo CO CR k a1 a2 a3 a4 a5 a6 a7 = some res → lv_has ls 10 [(0, .ref h0), (1, .int a1), (2, .int a2), (3, .int a3), (4, .int a4), (5, .int a5), (6, .int a6), (7, .int a7)] → W p l e (headSpec wsX9_most rX9_most).room s m ([.ref h0, .int p1, .int p2, .int p3, .int p4, .int p5] : List Value).toArray below meth c s.heap [] 0 0 (MQ below (vp_Si (fun r => r = res)) ([.ref h0, .int p1, .int p2, .int p3, .int p4, .int p5] : List Value).toArray s 0 0 (fun _ => False)) (F0 m 60 ls []) := by
    intro k
    induction k with
    | zero =>
      intro a1 a2 a3 a4 a5 a6 a7 ls hF hl
      rw [LX9_most_60] at hF
      cases hF
    | succ k ih =>
      intro a1 a2 a3 a4 a5 a6 a7 ls hF hl
      rw [LX9_most_60] at hF
      refine lv_iload hx hb dX9_most_60 (lv_at hl 7 rfl) ?_
      refine lv_aload_n hx hb dX9_most_62 rfl (lv_at hl 0 rfl) ?_
      refine va_get (ci := 9) (v := .ref qCO) (C := RX9) (T := TX9) (N := 24) hx hb hts hin9 hown hK hP 0 rfl rfl 7 (by decide) hfl26 (fun _ h9 => h9) rfl dX9_most_63 ?_
      refine lv_iload_n hx hb dX9_most_66 rfl (lv_at hl 1 rfl) ?_
      obtain ⟨hi_13, hF⟩ := gd_in_s hF
      refine va_iald hx hb hK hP 6 0 rfl rfl hi_13 dX9_most_67 ?_
      refine lv_icmp_ge (tgt := 160) hx hb dX9_most_68 (by decide) (fun c_14 => ?_) (fun c_14 => ?_)
      · replace hF := it_p c_14 hF
        refine lv_iload hx hb dX9_most_160 (lv_at hl 6 rfl) ?_
        exact W.iret (v := a6) hx hb hr  (fun t ht hW => ⟨a6, rfl, (so_e hF), ht⟩) (fun q h => absurd h List.not_mem_nil) dX9_most_162
      · replace hF := it_n c_14 hF
        refine lv_bipush (v := 120) hx hb dX9_most_71 (by decide) ?_
        refine lv_iload_n hx hb dX9_most_73 rfl (lv_at hl 1 rfl) ?_
        refine lv_imul hx hb dX9_most_74 ?_
        refine lv_iconst (v := 3) hx hb dX9_most_75 (by decide) ?_
        refine lv_iload hx hb dX9_most_76 (lv_at hl 7 rfl) ?_
        refine lv_imul hx hb dX9_most_78 ?_
        refine lv_iadd hx hb dX9_most_79 ?_
        refine lv_istore (lv' := [(8, .int ((120 * a1) + (3 * a7))), (0, .ref h0), (1, .int a1), (2, .int a2), (3, .int a3), (4, .int a4), (5, .int a5), (6, .int a6), (7, .int a7)]) hx hb dX9_most_80 hl (by decide) rfl (fun ls hl => ?_)
        refine lv_iload_n hx hb dX9_most_82 rfl (lv_at hl 3 rfl) ?_
        refine lv_aload_n hx hb dX9_most_83 rfl (lv_at hl 1 rfl) ?_
        refine va_get (ci := 9) (v := .ref qCR) (C := RX9) (T := TX9) (N := 24) hx hb hts hin9 hown hK hP 0 rfl rfl 8 (by decide) hfl29 (fun _ h9 => h9) rfl dX9_most_84 ?_
        refine lv_iload hx hb dX9_most_87 (lv_at hl 0 rfl) ?_
        obtain ⟨hi_15, hF⟩ := gd_in_s hF
        refine va_iald hx hb hK hP 7 0 rfl rfl hi_15 dX9_most_89 ?_
        refine lv_imul hx hb dX9_most_90 ?_
        refine lv_iload_n hx hb dX9_most_91 rfl (lv_at hl 4 rfl) ?_
        refine lv_aload_n hx hb dX9_most_92 rfl (lv_at hl 1 rfl) ?_
        refine va_get (ci := 9) (v := .ref qCR) (C := RX9) (T := TX9) (N := 24) hx hb hts hin9 hown hK hP 0 rfl rfl 8 (by decide) hfl29 (fun _ h9 => h9) rfl dX9_most_93 ?_
        refine lv_iload hx hb dX9_most_96 (lv_at hl 0 rfl) ?_
        refine lv_iconst (v := 1) hx hb dX9_most_98 (by decide) ?_
        refine lv_iadd hx hb dX9_most_99 ?_
        obtain ⟨hi_16, hF⟩ := gd_in_s hF
        refine va_iald hx hb hK hP 7 0 rfl rfl hi_16 dX9_most_100 ?_
        refine lv_imul hx hb dX9_most_101 ?_
        refine lv_iadd hx hb dX9_most_102 ?_
        refine lv_iload hx hb dX9_most_103 (lv_at hl 5 rfl) ?_
        refine lv_aload_n hx hb dX9_most_105 rfl (lv_at hl 1 rfl) ?_
        refine va_get (ci := 9) (v := .ref qCR) (C := RX9) (T := TX9) (N := 24) hx hb hts hin9 hown hK hP 0 rfl rfl 8 (by decide) hfl29 (fun _ h9 => h9) rfl dX9_most_106 ?_
        refine lv_iload hx hb dX9_most_109 (lv_at hl 0 rfl) ?_
        refine lv_iconst (v := 2) hx hb dX9_most_111 (by decide) ?_
        refine lv_iadd hx hb dX9_most_112 ?_
        obtain ⟨hi_17, hF⟩ := gd_in_s hF
        refine va_iald hx hb hK hP 7 0 rfl rfl hi_17 dX9_most_113 ?_
        refine lv_imul hx hb dX9_most_114 ?_
        refine lv_iadd hx hb dX9_most_115 ?_
        refine lv_topi (fun c_18 ec_18 => ?_)
        replace hF := cut_at ec_18 hF
        refine lv_istore (lv' := [(9, .int c_18), (8, .int ((120 * a1) + (3 * a7))), (0, .ref h0), (1, .int a1), (2, .int a2), (3, .int a3), (4, .int a4), (5, .int a5), (6, .int a6), (7, .int a7)]) hx hb dX9_most_116 hl (by decide) rfl (fun ls hl => ?_)
        refine lv_iload hx hb dX9_most_118 (lv_at hl 9 rfl) ?_
        refine lv_if_eq (tgt := 145) hx hb dX9_most_120 (by decide) (fun c_19 => ?_) (fun c_19 => ?_)
        · replace hF := it_p c_19 hF
          exact hJ145 _ ih a1 a2 a3 a4 a5 a7 c_18 _ hF (lv_sub hl [2, 3, 4, 5, 6, 7, 9, 0] rfl)
        · replace hF := it_n c_19 hF
          refine lv_iload hx hb dX9_most_123 (lv_at hl 7 rfl) ?_
          refine lv_if_eq (tgt := 138) hx hb dX9_most_125 (by decide) (fun c_20 => ?_) (fun c_20 => ?_)
          · replace hF := it_p c_20 hF
            refine lv_iload hx hb dX9_most_138 (lv_at hl 0 rfl) ?_
            refine lv_iload hx hb dX9_most_140 (lv_at hl 8 rfl) ?_
            refine lv_icmp_ge (tgt := 150) hx hb dX9_most_142 (by decide) (fun c_21 => ?_) (fun c_21 => ?_)
            · replace hF := it_p c_21 hF
              exact hJ150 _ ih a1 a2 a3 a4 a5 a6 a7 _ hF (lv_sub hl [2, 3, 4, 5, 6, 7, 8, 9] rfl)
            · replace hF := it_n c_21 hF
              exact hJ145 _ ih a1 a2 a3 a4 a5 a7 c_18 _ hF (lv_sub hl [2, 3, 4, 5, 6, 7, 9, 0] rfl)
          · replace hF := it_n c_20 hF
            refine lv_iload hx hb dX9_most_128 (lv_at hl 0 rfl) ?_
            refine lv_iload hx hb dX9_most_130 (lv_at hl 8 rfl) ?_
            refine lv_icmp_le (tgt := 150) hx hb dX9_most_132 (by decide) (fun c_22 => ?_) (fun c_22 => ?_)
            · replace hF := it_p c_22 hF
              exact hJ150 _ ih a1 a2 a3 a4 a5 a6 a7 _ hF (lv_sub hl [2, 3, 4, 5, 6, 7, 8, 9] rfl)
            · replace hF := it_n c_22 hF
              refine lv_goto (tgt := 145) hx hb dX9_most_135 (by decide) ?_
              exact hJ145 _ ih a1 a2 a3 a4 a5 a7 c_18 _ hF (lv_sub hl [2, 3, 4, 5, 6, 7, 9, 0] rfl)
  unfold fX9_most at hF
  refine lv_aload_n hx hb dX9_most_0 rfl (lv_at hl 0 rfl) ?_
  refine lv_iload_n hx hb dX9_most_1 rfl (lv_at hl 1 rfl) ?_
  obtain ⟨v_1, hv_1, hF⟩ := bd_s hF
  refine ro_ze (va_runV (As := [.int p1]) (rest := []) ⟨hx, hb, hml, hown, hts⟩ (kX9_is l G h0 qDR qLA qLE qCE qFI qCO qCR qSI qSR qMO qBO qPX qPY qPZ qSX dr bo po sx sy sw tx ty tz DR LA LE CE FI CO CR SI SR MO BO PX PY PZ SX p1 v_1 hv_1) (cwV 1 hts gX9_most_X9_is rfl rfl rfl (by decide +kernel) ⟨Nat.le_of_ble_eq_true rfl, Nat.le_of_ble_eq_true rfl⟩) (pvR (q0 := 0) 9 hK (hP.sub (ws' := (wMod G h0 qDR qLA qLE qCE qFI qCO qCR qSI qSR qMO qBO qPX qPY qPZ qSX dr bo po sx sy sw tx ty tz DR LA LE CE FI CO CR SI SR MO BO PX PY PZ SX)) [0, 1, 2, 3, 4, 5, 6, 7, 8, 9, 10, 11, 12, 13, 14, 15] rfl) rfl rfl) rfl rfl hl.1 rfl (lv_room (Nat.le_of_ble_eq_true rfl)) dX9_most_2 ⟨Nat.le_of_ble_eq_true rfl, Nat.le_of_ble_eq_true rfl⟩) (fun hb_2 => ?_)
  refine lv_if_eq (tgt := 51) hx hb dX9_most_5 (by decide) (fun c_3 => ?_) (fun c_3 => ?_)
  · replace hF := it_p c_3 hF
    refine lv_ldc (v := (-1000000)) hx hb hown hcn177 dX9_most_51 ?_
    exact W.iret (v := (-1000000)) hx hb hr  (fun t ht hW => ⟨(-1000000), rfl, (so_e hF), ht⟩) (fun q h => absurd h List.not_mem_nil) dX9_most_53
  · replace hF := it_n c_3 hF
    refine lv_iload_n hx hb dX9_most_8 rfl (lv_at hl 2 rfl) ?_
    refine lv_i2l hx hb dX9_most_9 rfl ?_
    refine lv_ldc2 (v := (-100)) hx hb hown hcn209 dX9_most_10 ?_
    refine lv_ldc2 (v := 100) hx hb hown hcn211 dX9_most_13 ?_
    obtain ⟨v_4, hv_4, hF⟩ := bd_s hF
    refine ro_ze (va_runS (As := [.long p2.toInt64, .long (-100), .long 100]) (rest := []) ⟨hx, hb, hml, hown, hts⟩ (kX9_in l G p2.toInt64 (-100) 100 v_4 hv_4) (va_cwS 3 hts gX9_most_X9_in rfl rfl rfl (by decide +kernel) ⟨Nat.le_of_ble_eq_true rfl, Nat.le_of_ble_eq_true rfl⟩) (psR hK (hP.sub (ws' := ([] : va_W)) [] rfl)) rfl rfl hl.1 rfl (lv_room (Nat.le_of_ble_eq_true rfl)) dX9_most_16 ⟨Nat.le_of_ble_eq_true rfl, Nat.le_of_ble_eq_true rfl⟩) (fun hb_5 => ?_)
    refine lv_if_eq (tgt := 51) hx hb dX9_most_19 (by decide) (fun c_6 => ?_) (fun c_6 => ?_)
    · replace hF := it_p c_6 hF
      refine lv_ldc (v := (-1000000)) hx hb hown hcn177 dX9_most_51 ?_
      exact W.iret (v := (-1000000)) hx hb hr  (fun t ht hW => ⟨(-1000000), rfl, (so_e hF), ht⟩) (fun q h => absurd h List.not_mem_nil) dX9_most_53
    · replace hF := it_n c_6 hF
      refine lv_iload_n hx hb dX9_most_22 rfl (lv_at hl 3 rfl) ?_
      refine lv_i2l hx hb dX9_most_23 rfl ?_
      refine lv_ldc2 (v := (-100)) hx hb hown hcn209 dX9_most_24 ?_
      refine lv_ldc2 (v := 100) hx hb hown hcn211 dX9_most_27 ?_
      obtain ⟨v_7, hv_7, hF⟩ := bd_s hF
      refine ro_ze (va_runS (As := [.long p3.toInt64, .long (-100), .long 100]) (rest := []) ⟨hx, hb, hml, hown, hts⟩ (kX9_in l G p3.toInt64 (-100) 100 v_7 hv_7) (va_cwS 3 hts gX9_most_X9_in rfl rfl rfl (by decide +kernel) ⟨Nat.le_of_ble_eq_true rfl, Nat.le_of_ble_eq_true rfl⟩) (psR hK (hP.sub (ws' := ([] : va_W)) [] rfl)) rfl rfl hl.1 rfl (lv_room (Nat.le_of_ble_eq_true rfl)) dX9_most_30 ⟨Nat.le_of_ble_eq_true rfl, Nat.le_of_ble_eq_true rfl⟩) (fun hb_8 => ?_)
      refine lv_if_eq (tgt := 51) hx hb dX9_most_33 (by decide) (fun c_9 => ?_) (fun c_9 => ?_)
      · replace hF := it_p c_9 hF
        refine lv_ldc (v := (-1000000)) hx hb hown hcn177 dX9_most_51 ?_
        exact W.iret (v := (-1000000)) hx hb hr  (fun t ht hW => ⟨(-1000000), rfl, (so_e hF), ht⟩) (fun q h => absurd h List.not_mem_nil) dX9_most_53
      · replace hF := it_n c_9 hF
        refine lv_iload hx hb dX9_most_36 (lv_at hl 4 rfl) ?_
        refine lv_i2l hx hb dX9_most_38 rfl ?_
        refine lv_ldc2 (v := (-100)) hx hb hown hcn209 dX9_most_39 ?_
        refine lv_ldc2 (v := 100) hx hb hown hcn211 dX9_most_42 ?_
        obtain ⟨v_10, hv_10, hF⟩ := bd_s hF
        refine ro_ze (va_runS (As := [.long p4.toInt64, .long (-100), .long 100]) (rest := []) ⟨hx, hb, hml, hown, hts⟩ (kX9_in l G p4.toInt64 (-100) 100 v_10 hv_10) (va_cwS 3 hts gX9_most_X9_in rfl rfl rfl (by decide +kernel) ⟨Nat.le_of_ble_eq_true rfl, Nat.le_of_ble_eq_true rfl⟩) (psR hK (hP.sub (ws' := ([] : va_W)) [] rfl)) rfl rfl hl.1 rfl (lv_room (Nat.le_of_ble_eq_true rfl)) dX9_most_45 ⟨Nat.le_of_ble_eq_true rfl, Nat.le_of_ble_eq_true rfl⟩) (fun hb_11 => ?_)
        refine lv_if_ne (tgt := 54) hx hb dX9_most_48 (by decide) (fun c_12 => ?_) (fun c_12 => ?_)
        · replace hF := it_n c_12 hF
          refine lv_iconst (v := 0) hx hb dX9_most_54 (by decide) ?_
          refine lv_istore (lv' := [(6, .int 0), (0, .ref h0), (1, .int p1), (2, .int p2), (3, .int p3), (4, .int p4), (5, .int p5)]) hx hb dX9_most_55 hl (by decide) rfl (fun ls hl => ?_)
          refine lv_iconst (v := 0) hx hb dX9_most_57 (by decide) ?_
          refine lv_istore (lv' := [(7, .int 0), (6, .int 0), (0, .ref h0), (1, .int p1), (2, .int p2), (3, .int p3), (4, .int p4), (5, .int p5)]) hx hb dX9_most_58 hl (by decide) rfl (fun ls hl => ?_)
          exact hL60 FU p1 p2 p3 p4 p5 0 0 _ hF (lv_sub hl [2, 3, 4, 5, 6, 7, 1, 0] rfl)
        · replace hF := it_p c_12 hF
          refine lv_ldc (v := (-1000000)) hx hb hown hcn177 dX9_most_51 ?_
          exact W.iret (v := (-1000000)) hx hb hr  (fun t ht hW => ⟨(-1000000), rfl, (so_e hF), ht⟩) (fun q h => absurd h List.not_mem_nil) dX9_most_53
def fX9_all (dr : Int32) (bo : Int32) (LA : Nat → Int32) (LE : Nat → Int32) (p1 : Int32) : Option (Int32) :=
  (if p1 = 0 then (some bo) else (if p1 = 1 then (some dr) else (if p1 = 2 then (gd_in 0 4 (if LA (0 : Int32).toNatClampNeg = (-4) then (some (-4)) else (some (LE (0 : Int32).toNatClampNeg)))) else (some (-1)))))
abbrev rX9_all : Room := { frames := 0, cells := 0, slots := 0, locals := 0 }
set_option maxHeartbeats 40000000 in
set_option maxRecDepth 100000 in
theorem kX9_all (l : Launch) (G : GT) (h0 qDR qLA qLE qCE qFI qCO qCR qSI qSR qMO qBO qPX qPY qPZ qSX : Nat) (dr : Int32) (bo : Int32) (po : Int32) (sx : Int32) (sy : Int32) (sw : Int32) (tx : Int32) (ty : Int32) (tz : Int32) (DR : Nat → Int32) (LA : Nat → Int32) (LE : Nat → Int32) (CE : Nat → Int64) (FI : Nat → Int32) (CO : Nat → Int32) (CR : Nat → Int32) (SI : Nat → Int32) (SR : Nat → Int32) (MO : Nat → Int32) (BO : Nat → Int32) (PX : Nat → Int32) (PY : Nat → Int32) (PZ : Nat → Int32) (SX : Nat → Int32) (p1 : Int32) (res : Int32) (hF : fX9_all dr bo LA LE p1 = some res) : Met l yX9_all wsX9_all rX9_all (va_Pc [.ref h0, .int p1] (pR G (wMod G h0 qDR qLA qLE qCE qFI qCO qCR qSI qSR qMO qBO qPX qPY qPZ qSX dr bo po sx sy sw tx ty tz DR LA LE CE FI CO CR SI SR MO BO PX PY PZ SX))) (vp_Si (fun r => r = res)) 0 0 (fun _ => False) := by
  refine Met.ofW (cc := cX9_all) (maxL := 2) (ret := (some .int)) (by decide) rfl ?_
  intro p e s m args below meth c s₁ B hml hv
  obtain ⟨rfl, hP, hK⟩ := hv
  have hx := B.exec
  have hb := B.bytes
  have hr := B.returns
  have hts := atoms_spec (ws := wsX9_all) B.pre
  have hown : s.vm.findClass RX9 = some m.cls := findClass_of_methodNamed B.named
  have hlocks := B.notSynchronized
  have hin9 : ∀ w ∈ u_ws RX9 TX9 24, w ∈ wsX9_all := by decide +kernel
  have hfl124 := hts (.fieldLink RX9 124 "SwellBodiesModel" "bodies" "I") (by decide +kernel)
  have hfl64 := hts (.fieldLink RX9 64 "SwellBodiesModel" "drafted" "I") (by decide +kernel)
  have hfl13 := hts (.fieldLink RX9 13 "SwellBodiesModel" "lanes" "[I") (by decide +kernel)
  have hfl16 := hts (.fieldLink RX9 16 "SwellBodiesModel" "lengths" "[I") (by decide +kernel)
  have hl := lv_entry ([.ref h0, .int p1]) (n := 2) (Nat.le_of_ble_eq_true rfl)
  rw [lg_entry_eq]
  generalize (lg_sl ([.ref h0, .int p1]) ++ List.replicate (2 - (lg_sl ([.ref h0, .int p1])).length) Slot.unset).toArray = ls at hl ⊢
  have hl : lv_has ls 2 [(0, .ref h0), (1, .int p1)] := hl
  unfold fX9_all at hF
  refine lv_iload_n hx hb dX9_all_0 rfl (lv_at hl 1 rfl) ?_
  by_cases c_1 : p1 = 0
  · replace hF := it_p c_1 hF
    refine lv_tableIn (off := 27) (tgt := 28) hx hb dX9_all_1 (by rw [c_1]; decide) (by rw [c_1]; decide) (by rw [c_1]; decide) (by decide) ?_
    refine lv_aload_n hx hb dX9_all_28 rfl (lv_at hl 0 rfl) ?_
    refine va_get (ci := 9) (v := .int bo) (C := RX9) (T := TX9) (N := 24) hx hb hts hin9 hown hK hP 0 rfl rfl 5 (by decide) hfl124 (fun _ h9 => h9) rfl dX9_all_29 ?_
    exact W.iret (v := bo) hx hb hr  (fun t ht hW => ⟨bo, rfl, (so_e hF), ht⟩) (fun q h => absurd h List.not_mem_nil) dX9_all_32
  · replace hF := it_n c_1 hF
    by_cases c_2 : p1 = 1
    · replace hF := it_p c_2 hF
      refine lv_tableIn (off := 32) (tgt := 33) hx hb dX9_all_1 (by rw [c_2]; decide) (by rw [c_2]; decide) (by rw [c_2]; decide) (by decide) ?_
      refine lv_aload_n hx hb dX9_all_33 rfl (lv_at hl 0 rfl) ?_
      refine va_get (ci := 9) (v := .int dr) (C := RX9) (T := TX9) (N := 24) hx hb hts hin9 hown hK hP 0 rfl rfl 0 (by decide) hfl64 (fun _ h9 => h9) rfl dX9_all_34 ?_
      exact W.iret (v := dr) hx hb hr  (fun t ht hW => ⟨dr, rfl, (so_e hF), ht⟩) (fun q h => absurd h List.not_mem_nil) dX9_all_37
    · replace hF := it_n c_2 hF
      by_cases c_3 : p1 = 2
      · replace hF := it_p c_3 hF
        refine lv_tableIn (off := 37) (tgt := 38) hx hb dX9_all_1 (by rw [c_3]; decide) (by rw [c_3]; decide) (by rw [c_3]; decide) (by decide) ?_
        refine lv_aload_n hx hb dX9_all_38 rfl (lv_at hl 0 rfl) ?_
        refine va_get (ci := 9) (v := .ref qLA) (C := RX9) (T := TX9) (N := 24) hx hb hts hin9 hown hK hP 0 rfl rfl 2 (by decide) hfl13 (fun _ h9 => h9) rfl dX9_all_39 ?_
        refine lv_iconst (v := 0) hx hb dX9_all_42 (by decide) ?_
        obtain ⟨hi_4, hF⟩ := gd_in_s hF
        refine va_iald hx hb hK hP 2 0 rfl rfl hi_4 dX9_all_43 ?_
        refine lv_bipush (v := (-4)) hx hb dX9_all_44 (by decide) ?_
        refine lv_icmp_ne (tgt := 54) hx hb dX9_all_46 (by decide) (fun c_5 => ?_) (fun c_5 => ?_)
        · replace hF := it_n c_5 hF
          refine lv_aload_n hx hb dX9_all_54 rfl (lv_at hl 0 rfl) ?_
          refine va_get (ci := 9) (v := .ref qLE) (C := RX9) (T := TX9) (N := 24) hx hb hts hin9 hown hK hP 0 rfl rfl 3 (by decide) hfl16 (fun _ h9 => h9) rfl dX9_all_55 ?_
          refine lv_iconst (v := 0) hx hb dX9_all_58 (by decide) ?_
          refine va_iald hx hb hK hP 3 0 rfl rfl hi_4 dX9_all_59 ?_
          exact W.iret (v := LE (0 : Int32).toNatClampNeg) hx hb hr  (fun t ht hW => ⟨LE (0 : Int32).toNatClampNeg, rfl, (so_e hF), ht⟩) (fun q h => absurd h List.not_mem_nil) dX9_all_60
        · replace hF := it_p c_5 hF
          refine lv_bipush (v := (-4)) hx hb dX9_all_49 (by decide) ?_
          refine lv_goto (tgt := 60) hx hb dX9_all_51 (by decide) ?_
          exact W.iret (v := (-4)) hx hb hr  (fun t ht hW => ⟨(-4), rfl, (so_e hF), ht⟩) (fun q h => absurd h List.not_mem_nil) dX9_all_60
      · replace hF := it_n c_3 hF
        refine lv_tableOut (tgt := 61) hx hb dX9_all_1 (by have e0 : p1.toInt ≠ 0 := ne_t c_1; have e1 : p1.toInt ≠ 1 := ne_t c_2; have e2 : p1.toInt ≠ 2 := ne_t c_3; omega) (by decide) ?_
        refine lv_iconst (v := (-1)) hx hb dX9_all_61 (by decide) ?_
        exact W.iret (v := (-1)) hx hb hr  (fun t ht hW => ⟨(-1), rfl, (so_e hF), ht⟩) (fun q h => absurd h List.not_mem_nil) dX9_all_62
