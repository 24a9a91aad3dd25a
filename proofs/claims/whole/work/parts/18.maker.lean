abbrev wMk (G : GT) (h0 p0 ax ay az s0 sa sb sc se b0 ba bb bc be t1 t2 t3 t4 : Nat) (fi : Int32) (ps : Int32) (X : Nat → Int32) (Y : Nat → Int32) (Z : Nat → Int32) (ss : Int32) (SA : Nat → Int32) (SB : Nat → Int32) (SC : Nat → Int32) (SE : Nat → Int32) (bs : Int32) (BA : Nat → Int32) (BB : Nat → Int32) (BC : Nat → Int32) (BD : Nat → Int32) (l1 : Int32) (l2 : Int32) (l3 : Int32) (c1 : Int32) (c2 : Int32) (c3 : Int32) (r1 : Int32) (r2 : Int32) (r3 : Int32) (f1 : Int32) (f2 : Int32) (f3 : Int32) : va_W := [(h0, .inr (3, [.ref p0, .ref s0, .ref b0, .ref t1, .ref t2, .ref t3, .ref t4, .int fi])), (p0, .inr (4, [.ref ax, .ref ay, .ref az, .int ps])), (ax, .inl (gI G, 121, .inl X)), (ay, .inl (gI G, 121, .inl Y)), (az, .inl (gI G, 121, .inl Z)), (s0, .inr (1, [.ref sa, .ref sb, .ref sc, .ref se, .int ss])), (sa, .inl (gI G, 80, .inl SA)), (sb, .inl (gI G, 80, .inl SB)), (sc, .inl (gI G, 80, .inl SC)), (se, .inl (gI G, 80, .inl SE)), (b0, .inr (1, [.ref ba, .ref bb, .ref bc, .ref be, .int bs])), (ba, .inl (gI G, 3, .inl BA)), (bb, .inl (gI G, 3, .inl BB)), (bc, .inl (gI G, 3, .inl BC)), (be, .inl (gI G, 3, .inl BD)), (t1, .inr (6, [.int l1, .int l2, .int l3])), (t2, .inr (6, [.int c1, .int c2, .int c3])), (t3, .inr (6, [.int r1, .int r2, .int r3])), (t4, .inr (6, [.int f1, .int f2, .int f3]))]
abbrev wMkO (G : GT) (h0 p0 ax ay az s0 b0 t1 t2 t3 t4 : Nat) (fi : Int32) (ps : Int32) (X : Nat → Int32) (Y : Nat → Int32) (Z : Nat → Int32) : va_W := [(h0, .inr (3, [.ref p0, .ref s0, .ref b0, .ref t1, .ref t2, .ref t3, .ref t4, .int fi])), (p0, .inr (4, [.ref ax, .ref ay, .ref az, .int ps])), (ax, .inl (gI G, 121, .inl X)), (ay, .inl (gI G, 121, .inl Y)), (az, .inl (gI G, 121, .inl Z))]
abbrev wMkP (G : GT) (h0 p0 ax ay az g0 bX bY bZ s0 b0 t1 t2 t3 t4 : Nat) (n2 : Nat) (fi : Int32) (ps : Int32) (X : Nat → Int32) (Y : Nat → Int32) (Z : Nat → Int32) (sz1 : Int32) (U : Nat → Int32) (V : Nat → Int32) (T : Nat → Int32) : va_W := [(h0, .inr (3, [.ref p0, .ref s0, .ref b0, .ref t1, .ref t2, .ref t3, .ref t4, .int fi])), (p0, .inr (4, [.ref ax, .ref ay, .ref az, .int ps])), (ax, .inl (gI G, 121, .inl X)), (ay, .inl (gI G, 121, .inl Y)), (az, .inl (gI G, 121, .inl Z)), (g0, .inr (4, [.ref bX, .ref bY, .ref bZ, .int sz1])), (bX, .inl (gI G, n2, .inl U)), (bY, .inl (gI G, n2, .inl V)), (bZ, .inl (gI G, n2, .inl T))]
def fX3_begin (ps : Int32) : Option (Int32) :=
  (some 0)
abbrev rX3_begin : Room := { frames := 0, cells := 0, slots := 0, locals := 0 }
set_option maxHeartbeats 40000000 in
set_option maxRecDepth 100000 in
theorem kX3_begin (l : Launch) (G : GT) (h0 p0 ax ay az s0 b0 t1 t2 t3 t4 : Nat) (sz : Nat) (fi : Int32) (ps : Int32) (X : Nat → Int32) (Y : Nat → Int32) (Z : Nat → Int32) (res : Int32) (hF : fX3_begin ps = some res) : Met l yX3_begin wsX3_begin rX3_begin (va_Pc [.ref h0] (pW G sz (wMkO G h0 p0 ax ay az s0 b0 t1 t2 t3 t4 fi ps X Y Z))) (va_Qv (fun (u : Int32) => u = res) (fun u t => qW G (va_A (wMkO G h0 p0 ax ay az s0 b0 t1 t2 t3 t4 fi ps X Y Z) sz) (wMkO G h0 p0 ax ay az s0 b0 t1 t2 t3 t4 fi u X Y Z) t) (va_A (wMkO G h0 p0 ax ay az s0 b0 t1 t2 t3 t4 fi ps X Y Z) sz)) 0 0 (va_A (wMkO G h0 p0 ax ay az s0 b0 t1 t2 t3 t4 fi ps X Y Z) sz) := by
  refine Met.ofW (cc := cX3_begin) (maxL := 1) (ret := none) (by decide) rfl ?_
  intro p e s m args below meth c s₁ B hml hv
  obtain ⟨rfl, hsz, hP, hK, hD0⟩ := hv
  have hx := B.exec
  have hb := B.bytes
  have hr := B.returns
  have hts := atoms_spec (ws := wsX3_begin) B.pre
  have hown : s.vm.findClass RX3 = some m.cls := findClass_of_methodNamed B.named
  have hlocks := B.notSynchronized
  subst hsz
  have hD := hD0.self (sz := s.heap.size)
  generalize hAe : va_A (wMkO G h0 p0 ax ay az s0 b0 t1 t2 t3 t4 fi ps X Y Z) s.heap.size = A at hD ⊢
  have hA : ∀ q : Nat, s.heap.size ≤ q → A q := fun q h => by rw [← hAe]; exact Or.inr h
  have hS : va_S A s.heap s.heap [] := va_S.rf
  have hin3 : ∀ w ∈ u_ws RX3 TX3 8, w ∈ wsX3_begin := by decide +kernel
  have hfl14 := hts (.fieldLink RX3 14 "SwellBodies$Maker" "points" "LSwellBodies$Points;") (by decide +kernel)
  have hin4 : ∀ w ∈ u_ws RX4 TX4 4, w ∈ wsX3_begin := by decide +kernel
  have hfl46 := hts (.fieldLink RX3 46 "SwellBodies$Points" "size" "I") (by decide +kernel)
  have hl := lv_entry ([.ref h0]) (n := 1) (Nat.le_of_ble_eq_true rfl)
  rw [lg_entry_eq]
  generalize (lg_sl ([.ref h0]) ++ List.replicate (1 - (lg_sl ([.ref h0])).length) Slot.unset).toArray = ls at hl ⊢
  have hl : lv_has ls 1 [(0, .ref h0)] := hl
  unfold fX3_begin at hF
  refine lv_aload_n hx hb dX3_begin_0 rfl (lv_at hl 0 rfl) ?_
  refine va_get (ci := 3) (v := .ref p0) (C := RX3) (T := TX3) (N := 8) hx hb hts hin3 hown hK hP 0 rfl rfl 0 (by decide) hfl14 (fun _ h9 => h9) rfl dX3_begin_1 ?_
  refine lv_iconst (v := 0) hx hb dX3_begin_4 (by decide) ?_
  refine va_put (ci := 4) (v := .int 0) (ty := .int) (C := RX4) (T := TX4) (N := 4) hx hb hts hin4 tyX4 tyX4_ok nmX4 hown hK hP hD hS 1 rfl rfl 3 (by decide) hfl46 (fun _ h9 => h9) rfl (by decide +kernel) rfl rfl (Nat.le_of_ble_eq_true rfl) dX3_begin_5 (fun H locs hP hD hS => ?_)
  have hP : va_P (gD G) vwCl (wMkO G h0 p0 ax ay az s0 b0 t1 t2 t3 t4 fi 0 X Y Z) H := hP
  have hD : va_D A (wMkO G h0 p0 ax ay az s0 b0 t1 t2 t3 t4 fi 0 X Y Z) := hD
  exact W.vret hx hb hr (fun t ht hW => ⟨⟨0, rfl, so_e hF, qW_mk ht hP hK hW hD⟩, hS.F ht⟩) hS.2.2 dX3_begin_8
def LX3_takeAll_2 (n2 : Nat) (sz1 : Int32) (U : Nat → Int32) (V : Nat → Int32) (T : Nat → Int32)  : Nat → Int32 → Int32 → (Nat → Int32) → (Nat → Int32) → (Nat → Int32) → Option (Int32 × (Nat → Int32) × (Nat → Int32) × (Nat → Int32))
  | 0, _, _, _, _, _ => none
  | k + 1, a2, mps, mX, mY, mZ =>
  (if sz1 ≤ a2 then (some (mps, mX, mY, mZ)) else (gd_in a2 n2 (bd (fX4_put 121 mps mX mY mZ (U a2.toNatClampNeg) (V a2.toNatClampNeg) (T a2.toNatClampNeg)) (fun v_3 => (LX3_takeAll_2 n2 sz1 U V T k (a2 + 1) v_3.1 v_3.2.1 v_3.2.2.1 v_3.2.2.2)))))
def fX3_takeAll (n2 : Nat) (ps : Int32) (X : Nat → Int32) (Y : Nat → Int32) (Z : Nat → Int32) (sz1 : Int32) (U : Nat → Int32) (V : Nat → Int32) (T : Nat → Int32) : Option (Int32 × (Nat → Int32) × (Nat → Int32) × (Nat → Int32)) :=
  (LX3_takeAll_2 n2 sz1 U V T FU 0 ps X Y Z)
abbrev rX3_takeAll : Room := { frames := 1, cells := 0, slots := 0, locals := 23 }
set_option maxHeartbeats 40000000 in
set_option maxRecDepth 100000 in
theorem kX3_takeAll (l : Launch) (G : GT) (h0 p0 ax ay az g0 bX bY bZ s0 b0 t1 t2 t3 t4 : Nat) (sz : Nat) (n2 : Nat) (fi : Int32) (ps : Int32) (X : Nat → Int32) (Y : Nat → Int32) (Z : Nat → Int32) (sz1 : Int32) (U : Nat → Int32) (V : Nat → Int32) (T : Nat → Int32) (res : Int32 × (Nat → Int32) × (Nat → Int32) × (Nat → Int32)) (hF : fX3_takeAll n2 ps X Y Z sz1 U V T = some res) : Met l yX3_takeAll wsX3_takeAll rX3_takeAll (va_Pc [.ref h0, .ref g0] (pW G sz (wMkP G h0 p0 ax ay az g0 bX bY bZ s0 b0 t1 t2 t3 t4 n2 fi ps X Y Z sz1 U V T))) (va_Qv (fun (u : Int32 × (Nat → Int32) × (Nat → Int32) × (Nat → Int32)) => u = res) (fun u t => qW G (va_A (wMkP G h0 p0 ax ay az g0 bX bY bZ s0 b0 t1 t2 t3 t4 n2 fi ps X Y Z sz1 U V T) sz) (wMkP G h0 p0 ax ay az g0 bX bY bZ s0 b0 t1 t2 t3 t4 n2 fi u.1 u.2.1 u.2.2.1 u.2.2.2 sz1 U V T) t) (va_A (wMkP G h0 p0 ax ay az g0 bX bY bZ s0 b0 t1 t2 t3 t4 n2 fi ps X Y Z sz1 U V T) sz)) 0 0 (va_A (wMkP G h0 p0 ax ay az g0 bX bY bZ s0 b0 t1 t2 t3 t4 n2 fi ps X Y Z sz1 U V T) sz) := by
  refine Met.ofW (cc := cX3_takeAll) (maxL := 3) (ret := none) (by decide) rfl ?_
  intro p e s m args below meth c s₁ B hml hv
  obtain ⟨rfl, hsz, hP, hK, hD0⟩ := hv
  have hx := B.exec
  have hb := B.bytes
  have hr := B.returns
  have hts := atoms_spec (ws := wsX3_takeAll) B.pre
  have hown : s.vm.findClass RX3 = some m.cls := findClass_of_methodNamed B.named
  have hlocks := B.notSynchronized
  subst hsz
  have hD := hD0.self (sz := s.heap.size)
  generalize hAe : va_A (wMkP G h0 p0 ax ay az g0 bX bY bZ s0 b0 t1 t2 t3 t4 n2 fi ps X Y Z sz1 U V T) s.heap.size = A at hD ⊢
  have hA : ∀ q : Nat, s.heap.size ≤ q → A q := fun q h => by rw [← hAe]; exact Or.inr h
  have hS : va_S A s.heap s.heap [] := va_S.rf
  have hin4 : ∀ w ∈ u_ws RX4 TX4 4, w ∈ wsX3_takeAll := by decide +kernel
  have hfl46 := hts (.fieldLink RX3 46 "SwellBodies$Points" "size" "I") (by decide +kernel)
  have hin3 : ∀ w ∈ u_ws RX3 TX3 8, w ∈ wsX3_takeAll := by decide +kernel
  have hfl14 := hts (.fieldLink RX3 14 "SwellBodies$Maker" "points" "LSwellBodies$Points;") (by decide +kernel)
  have hfl50 := hts (.fieldLink RX3 50 "SwellBodies$Points" "x" "[I") (by decide +kernel)
  have hfl54 := hts (.fieldLink RX3 54 "SwellBodies$Points" "y" "[I") (by decide +kernel)
  have hfl57 := hts (.fieldLink RX3 57 "SwellBodies$Points" "z" "[I") (by decide +kernel)
  have hl := lv_entry ([.ref h0, .ref g0]) (n := 3) (Nat.le_of_ble_eq_true rfl)
  rw [lg_entry_eq]
  generalize (lg_sl ([.ref h0, .ref g0]) ++ List.replicate (3 - (lg_sl ([.ref h0, .ref g0])).length) Slot.unset).toArray = ls at hl ⊢
  have hl : lv_has ls 3 [(0, .ref h0), (1, .ref g0)] := hl
  have hL2 : ∀ (k : Nat), ∀ (a2 : Int32) (mps : Int32) (mX : Nat → Int32) (mY : Nat → Int32) (mZ : Nat → Int32) (H : Heap) (locs : List Loc) (ls : Array Slot), LX3_takeAll_2 n2 sz1 U V T k a2 mps mX mY mZ = some res → va_P (gD G) vwCl (wMkP G h0 p0 ax ay az g0 bX bY bZ s0 b0 t1 t2 t3 t4 n2 fi mps mX mY mZ sz1 U V T) H → va_D A (wMkP G h0 p0 ax ay az g0 bX bY bZ s0 b0 t1 t2 t3 t4 n2 fi mps mX mY mZ sz1 U V T) → va_S A s.heap H locs → lv_has ls 3 [(0, .ref h0), (1, .ref g0), (2, .int a2)] → W p l e (headSpec wsX3_takeAll rX3_takeAll).room s m ([.ref h0, .ref g0] : List Value).toArray below meth c H locs 0 0 (MQ below (va_Qv (fun (u : Int32 × (Nat → Int32) × (Nat → Int32) × (Nat → Int32)) => u = res) (fun u t => qW G A (wMkP G h0 p0 ax ay az g0 bX bY bZ s0 b0 t1 t2 t3 t4 n2 fi u.1 u.2.1 u.2.2.1 u.2.2.2 sz1 U V T) t) A) ([.ref h0, .ref g0] : List Value).toArray s 0 0 A) (F0 m 2 ls []) := by
    intro k
    induction k with
    | zero =>
      intro a2 mps mX mY mZ H locs ls hF hP hD hS hl
      rw [LX3_takeAll_2] at hF
      cases hF
    | succ k ih =>
      intro a2 mps mX mY mZ H locs ls hF hP hD hS hl
      rw [LX3_takeAll_2] at hF
      refine lv_iload_n hx hb dX3_takeAll_2 rfl (lv_at hl 2 rfl) ?_
      refine lv_aload_n hx hb dX3_takeAll_3 rfl (lv_at hl 1 rfl) ?_
      refine va_get (ci := 4) (v := .int sz1) (C := RX4) (T := TX4) (N := 4) hx hb hts hin4 hown hK hP 5 rfl rfl 3 (by decide) hfl46 (fun _ h9 => h9) rfl dX3_takeAll_4 ?_
      refine lv_icmp_ge (tgt := 41) hx hb dX3_takeAll_7 (by decide) (fun c_1 => ?_) (fun c_1 => ?_)
      · replace hF := it_p c_1 hF
        exact W.vret hx hb hr (fun t ht hW => ⟨⟨(mps, mX, mY, mZ), rfl, so_e hF, qW_mk ht hP hK hW hD⟩, hS.F ht⟩) hS.2.2 dX3_takeAll_41
      · replace hF := it_n c_1 hF
        refine lv_aload_n hx hb dX3_takeAll_10 rfl (lv_at hl 0 rfl) ?_
        refine va_get (ci := 3) (v := .ref p0) (C := RX3) (T := TX3) (N := 8) hx hb hts hin3 hown hK hP 0 rfl rfl 0 (by decide) hfl14 (fun _ h9 => h9) rfl dX3_takeAll_11 ?_
        refine lv_aload_n hx hb dX3_takeAll_14 rfl (lv_at hl 1 rfl) ?_
        refine va_get (ci := 4) (v := .ref bX) (C := RX4) (T := TX4) (N := 4) hx hb hts hin4 hown hK hP 5 rfl rfl 0 (by decide) hfl50 (fun _ h9 => h9) rfl dX3_takeAll_15 ?_
        refine lv_iload_n hx hb dX3_takeAll_18 rfl (lv_at hl 2 rfl) ?_
        obtain ⟨hi_2, hF⟩ := gd_in_s hF
        refine va_iald hx hb hK hP 6 0 rfl rfl hi_2 dX3_takeAll_19 ?_
        refine lv_aload_n hx hb dX3_takeAll_20 rfl (lv_at hl 1 rfl) ?_
        refine va_get (ci := 4) (v := .ref bY) (C := RX4) (T := TX4) (N := 4) hx hb hts hin4 hown hK hP 5 rfl rfl 1 (by decide) hfl54 (fun _ h9 => h9) rfl dX3_takeAll_21 ?_
        refine lv_iload_n hx hb dX3_takeAll_24 rfl (lv_at hl 2 rfl) ?_
        refine va_iald hx hb hK hP 7 0 rfl rfl hi_2 dX3_takeAll_25 ?_
        refine lv_aload_n hx hb dX3_takeAll_26 rfl (lv_at hl 1 rfl) ?_
        refine va_get (ci := 4) (v := .ref bZ) (C := RX4) (T := TX4) (N := 4) hx hb hts hin4 hown hK hP 5 rfl rfl 2 (by decide) hfl57 (fun _ h9 => h9) rfl dX3_takeAll_27 ?_
        refine lv_iload_n hx hb dX3_takeAll_30 rfl (lv_at hl 2 rfl) ?_
        refine va_iald hx hb hK hP 8 0 rfl rfl hi_2 dX3_takeAll_31 ?_
        obtain ⟨v_3, hv_3, hF⟩ := bd_s hF
        refine rw_ve (wf := (fun (u : Int32 × (Nat → Int32) × (Nat → Int32) × (Nat → Int32)) => (wPts G p0 ax ay az 121 u.1 u.2.1 u.2.2.1 u.2.2.2))) (wr := [(h0, .inr (3, [.ref p0, .ref s0, .ref b0, .ref t1, .ref t2, .ref t3, .ref t4, .int fi])), (g0, .inr (4, [.ref bX, .ref bY, .ref bZ, .int sz1])), (bX, .inl (gI G, n2, .inl U)), (bY, .inl (gI G, n2, .inl V)), (bZ, .inl (gI G, n2, .inl T))]) (va_runV (As := [.int (U a2.toNatClampNeg), .int (V a2.toNatClampNeg), .int (T a2.toNatClampNeg)]) (rest := []) ⟨hx, hb, hml, hown, hts⟩ (kX4_put l G p0 ax ay az H.size 121 mps mX mY mZ (U a2.toNatClampNeg) (V a2.toNatClampNeg) (T a2.toNatClampNeg) v_3 hv_3) (cwV 3 hts gX3_takeAll_X4_put rfl rfl rfl (by decide +kernel) ⟨Nat.le_of_ble_eq_true rfl, Nat.le_of_ble_eq_true rfl⟩) (pvW (q0 := 0) 4 hK (hP.sub (ws' := (wPts G p0 ax ay az 121 mps mX mY mZ)) [1, 2, 3, 4] rfl) (hD.sub (ws' := (wPts G p0 ax ay az 121 mps mX mY mZ)) [1, 2, 3, 4] (by decide) rfl) rfl rfl) rfl rfl hl.1 rfl (lv_room (Nat.le_of_ble_eq_true rfl)) dX3_takeAll_32 ⟨Nat.le_of_ble_eq_true rfl, Nat.le_of_ble_eq_true rfl⟩) hP hD hS hA [1, 2, 3, 4] [0, 5, 6, 7, 8] rfl rfl (by decide) (by decide) (fun H locs  hP hD hS => ?_)
        have hP : va_P (gD G) vwCl (wMkP G h0 p0 ax ay az g0 bX bY bZ s0 b0 t1 t2 t3 t4 n2 fi v_3.1 v_3.2.1 v_3.2.2.1 v_3.2.2.2 sz1 U V T) H := hP.sub [0, 5, 6, 7, 8, 1, 2, 3, 4] rfl
        have hD : va_D A (wMkP G h0 p0 ax ay az g0 bX bY bZ s0 b0 t1 t2 t3 t4 n2 fi v_3.1 v_3.2.1 v_3.2.2.1 v_3.2.2.2 sz1 U V T) := hD.sub [0, 5, 6, 7, 8, 1, 2, 3, 4] (by decide) rfl
        refine lv_iinc (v := a2 + 1) (lv' := [(2, .int (a2 + 1)), (0, .ref h0), (1, .ref g0)]) hx hb dX3_takeAll_35 hl (k := 2) rfl rfl (by decide) rfl (fun ls hl => ?_)
        refine lv_goto (tgt := 2) hx hb dX3_takeAll_38 (by decide) ?_
        exact ih (a2 + 1) v_3.1 v_3.2.1 v_3.2.2.1 v_3.2.2.2 _ _ _ hF hP hD hS (lv_sub hl [1, 2, 0] rfl)
  unfold fX3_takeAll at hF
  refine lv_iconst (v := 0) hx hb dX3_takeAll_0 (by decide) ?_
  refine lv_istore_n (lv' := [(2, .int 0), (0, .ref h0), (1, .ref g0)]) hx hb dX3_takeAll_1 rfl hl (by decide) rfl (fun ls hl => ?_)
  exact hL2 FU 0 ps X Y Z _ _ _ hF hP hD hS (lv_sub hl [1, 2, 0] rfl)
def JX3_findSpace_158 (ps : Int32) (X : Nat → Int32) (Y : Nat → Int32) (Z : Nat → Int32) (k107 : Int32 → Int32 → Int32 → Int32 → Int32 → Int32 → Int32 → Int32 → Int32 → Int32 → Int32 → Option (Int32 × Int32 × Int32 × Int32 × Int32 × Int32 × Int32 × Int32 × Int32 × Int32)) (a1 : Int32) (mfi : Int32) (ml1 : Int32) (ml2 : Int32) (ml3 : Int32) (mc1 : Int32) (mc2 : Int32) (mc3 : Int32) (mr1 : Int32) (mr2 : Int32) (mr3 : Int32) : Option (Int32 × Int32 × Int32 × Int32 × Int32 × Int32 × Int32 × Int32 × Int32 × Int32) :=
  (k107 (a1 + 1) mfi ml1 ml2 ml3 mc1 mc2 mc3 mr1 mr2 mr3)
def LX3_findSpace_107 (ps : Int32) (X : Nat → Int32) (Y : Nat → Int32) (Z : Nat → Int32)  : Nat → Int32 → Int32 → Int32 → Int32 → Int32 → Int32 → Int32 → Int32 → Int32 → Int32 → Int32 → Option (Int32 × Int32 × Int32 × Int32 × Int32 × Int32 × Int32 × Int32 × Int32 × Int32)
  | 0, _, _, _, _, _, _, _, _, _, _, _ => none
  | k + 1, a1, mfi, ml1, ml2, ml3, mc1, mc2, mc3, mr1, mr2, mr3 =>
  (if ps ≤ a1 then (some (mfi, ml1, ml2, ml3, mc1, mc2, mc3, mr1, mr2, mr3)) else (if mfi = 2 then (bd (fX6_lead 121 mc1 mc2 mc3 X Y Z 0 a1) (fun v_6 => (bd (fX6_times mr1 mr2 mr3 v_6.1 v_6.2.1 v_6.2.2) (fun v_7 => (if v_7 = 0 then (JX3_findSpace_158 ps X Y Z (LX3_findSpace_107 ps X Y Z k) a1 mfi ml1 ml2 ml3 v_6.1 v_6.2.1 v_6.2.2 mr1 mr2 mr3) else (JX3_findSpace_158 ps X Y Z (LX3_findSpace_107 ps X Y Z k) a1 3 ml1 ml2 ml3 v_6.1 v_6.2.1 v_6.2.2 mr1 mr2 mr3)))))) else (some (mfi, ml1, ml2, ml3, mc1, mc2, mc3, mr1, mr2, mr3))))
def JX3_findSpace_105 (ps : Int32) (X : Nat → Int32) (Y : Nat → Int32) (Z : Nat → Int32)  (mfi : Int32) (ml1 : Int32) (ml2 : Int32) (ml3 : Int32) (mc1 : Int32) (mc2 : Int32) (mc3 : Int32) (mr1 : Int32) (mr2 : Int32) (mr3 : Int32) : Option (Int32 × Int32 × Int32 × Int32 × Int32 × Int32 × Int32 × Int32 × Int32 × Int32) :=
  (LX3_findSpace_107 ps X Y Z FU 2 mfi ml1 ml2 ml3 mc1 mc2 mc3 mr1 mr2 mr3)
def JX3_findSpace_99 (ps : Int32) (X : Nat → Int32) (Y : Nat → Int32) (Z : Nat → Int32) (k37 : Int32 → Int32 → Int32 → Int32 → Int32 → Int32 → Int32 → Int32 → Int32 → Int32 → Int32 → Option (Int32 × Int32 × Int32 × Int32 × Int32 × Int32 × Int32 × Int32 × Int32 × Int32)) (a1 : Int32) (mfi : Int32) (ml1 : Int32) (ml2 : Int32) (ml3 : Int32) (mc1 : Int32) (mc2 : Int32) (mc3 : Int32) (mr1 : Int32) (mr2 : Int32) (mr3 : Int32) : Option (Int32 × Int32 × Int32 × Int32 × Int32 × Int32 × Int32 × Int32 × Int32 × Int32) :=
  (k37 (a1 + 1) mfi ml1 ml2 ml3 mc1 mc2 mc3 mr1 mr2 mr3)
def LX3_findSpace_37 (ps : Int32) (X : Nat → Int32) (Y : Nat → Int32) (Z : Nat → Int32)  : Nat → Int32 → Int32 → Int32 → Int32 → Int32 → Int32 → Int32 → Int32 → Int32 → Int32 → Int32 → Option (Int32 × Int32 × Int32 × Int32 × Int32 × Int32 × Int32 × Int32 × Int32 × Int32)
  | 0, _, _, _, _, _, _, _, _, _, _, _ => none
  | k + 1, a1, mfi, ml1, ml2, ml3, mc1, mc2, mc3, mr1, mr2, mr3 =>
  (if ps ≤ a1 then (JX3_findSpace_105 ps X Y Z mfi ml1 ml2 ml3 mc1 mc2 mc3 mr1 mr2 mr3) else (if mfi = 1 then (bd (fX6_lead 121 mc1 mc2 mc3 X Y Z 0 a1) (fun v_10 => (bd (fX6_square mr1 mr2 mr3 ml1 ml2 ml3 v_10.1 v_10.2.1 v_10.2.2) (fun v_11 => (bd (fX6_isNought v_11.1 v_11.2.1 v_11.2.2) (fun v_12 => (if v_12 = 0 then (JX3_findSpace_99 ps X Y Z (LX3_findSpace_37 ps X Y Z k) a1 2 ml1 ml2 ml3 v_10.1 v_10.2.1 v_10.2.2 v_11.1 v_11.2.1 v_11.2.2) else (JX3_findSpace_99 ps X Y Z (LX3_findSpace_37 ps X Y Z k) a1 mfi ml1 ml2 ml3 v_10.1 v_10.2.1 v_10.2.2 v_11.1 v_11.2.1 v_11.2.2)))))))) else (JX3_findSpace_105 ps X Y Z mfi ml1 ml2 ml3 mc1 mc2 mc3 mr1 mr2 mr3)))
def fX3_findSpace (fi : Int32) (ps : Int32) (X : Nat → Int32) (Y : Nat → Int32) (Z : Nat → Int32) (l1 : Int32) (l2 : Int32) (l3 : Int32) (c1 : Int32) (c2 : Int32) (c3 : Int32) (r1 : Int32) (r2 : Int32) (r3 : Int32) : Option (Int32 × Int32 × Int32 × Int32 × Int32 × Int32 × Int32 × Int32 × Int32 × Int32) :=
  (if 2 ≤ ps then (bd (fX6_lead 121 l1 l2 l3 X Y Z 0 1) (fun v_2 => (LX3_findSpace_37 ps X Y Z FU 2 1 v_2.1 v_2.2.1 v_2.2.2 c1 c2 c3 r1 r2 r3))) else (some (0, l1, l2, l3, c1, c2, c3, r1, r2, r3)))
abbrev rX3_findSpace : Room := { frames := 1, cells := 0, slots := 0, locals := 23 }
set_option maxHeartbeats 40000000 in
set_option maxRecDepth 100000 in
theorem kX3_findSpace (l : Launch) (G : GT) (h0 p0 ax ay az s0 sa sb sc se b0 ba bb bc be t1 t2 t3 t4 : Nat) (sz : Nat) (fi : Int32) (ps : Int32) (X : Nat → Int32) (Y : Nat → Int32) (Z : Nat → Int32) (ss : Int32) (SA : Nat → Int32) (SB : Nat → Int32) (SC : Nat → Int32) (SE : Nat → Int32) (bs : Int32) (BA : Nat → Int32) (BB : Nat → Int32) (BC : Nat → Int32) (BD : Nat → Int32) (l1 : Int32) (l2 : Int32) (l3 : Int32) (c1 : Int32) (c2 : Int32) (c3 : Int32) (r1 : Int32) (r2 : Int32) (r3 : Int32) (f1 : Int32) (f2 : Int32) (f3 : Int32) (res : Int32 × Int32 × Int32 × Int32 × Int32 × Int32 × Int32 × Int32 × Int32 × Int32) (hF : fX3_findSpace fi ps X Y Z l1 l2 l3 c1 c2 c3 r1 r2 r3 = some res) : Met l yX3_findSpace wsX3_findSpace rX3_findSpace (va_Pc [.ref h0] (pW G sz (wMk G h0 p0 ax ay az s0 sa sb sc se b0 ba bb bc be t1 t2 t3 t4 fi ps X Y Z ss SA SB SC SE bs BA BB BC BD l1 l2 l3 c1 c2 c3 r1 r2 r3 f1 f2 f3))) (va_Qv (fun (u : Int32 × Int32 × Int32 × Int32 × Int32 × Int32 × Int32 × Int32 × Int32 × Int32) => u = res) (fun u t => qW G (va_A (wMk G h0 p0 ax ay az s0 sa sb sc se b0 ba bb bc be t1 t2 t3 t4 fi ps X Y Z ss SA SB SC SE bs BA BB BC BD l1 l2 l3 c1 c2 c3 r1 r2 r3 f1 f2 f3) sz) (wMk G h0 p0 ax ay az s0 sa sb sc se b0 ba bb bc be t1 t2 t3 t4 u.1 ps X Y Z ss SA SB SC SE bs BA BB BC BD u.2.1 u.2.2.1 u.2.2.2.1 u.2.2.2.2.1 u.2.2.2.2.2.1 u.2.2.2.2.2.2.1 u.2.2.2.2.2.2.2.1 u.2.2.2.2.2.2.2.2.1 u.2.2.2.2.2.2.2.2.2 f1 f2 f3) t) (va_A (wMk G h0 p0 ax ay az s0 sa sb sc se b0 ba bb bc be t1 t2 t3 t4 fi ps X Y Z ss SA SB SC SE bs BA BB BC BD l1 l2 l3 c1 c2 c3 r1 r2 r3 f1 f2 f3) sz)) 0 0 (va_A (wMk G h0 p0 ax ay az s0 sa sb sc se b0 ba bb bc be t1 t2 t3 t4 fi ps X Y Z ss SA SB SC SE bs BA BB BC BD l1 l2 l3 c1 c2 c3 r1 r2 r3 f1 f2 f3) sz) := by
  refine Met.ofW (cc := cX3_findSpace) (maxL := 2) (ret := none) (by decide) rfl ?_
  intro p e s m args below meth c s₁ B hml hv
  obtain ⟨rfl, hsz, hP, hK, hD0⟩ := hv
  have hx := B.exec
  have hb := B.bytes
  have hr := B.returns
  have hts := atoms_spec (ws := wsX3_findSpace) B.pre
  have hown : s.vm.findClass RX3 = some m.cls := findClass_of_methodNamed B.named
  have hlocks := B.notSynchronized
  subst hsz
  have hD := hD0.self (sz := s.heap.size)
  generalize hAe : va_A (wMk G h0 p0 ax ay az s0 sa sb sc se b0 ba bb bc be t1 t2 t3 t4 fi ps X Y Z ss SA SB SC SE bs BA BB BC BD l1 l2 l3 c1 c2 c3 r1 r2 r3 f1 f2 f3) s.heap.size = A at hD ⊢
  have hA : ∀ q : Nat, s.heap.size ≤ q → A q := fun q h => by rw [← hAe]; exact Or.inr h
  have hS : va_S A s.heap s.heap [] := va_S.rf
  have hin3 : ∀ w ∈ u_ws RX3 TX3 8, w ∈ wsX3_findSpace := by decide +kernel
  have hfl88 := hts (.fieldLink RX3 88 "SwellBodies$Maker" "fills" "I") (by decide +kernel)
  have hfl14 := hts (.fieldLink RX3 14 "SwellBodies$Maker" "points" "LSwellBodies$Points;") (by decide +kernel)
  have hin4 : ∀ w ∈ u_ws RX4 TX4 4, w ∈ wsX3_findSpace := by decide +kernel
  have hfl46 := hts (.fieldLink RX3 46 "SwellBodies$Points" "size" "I") (by decide +kernel)
  have hfl33 := hts (.fieldLink RX3 33 "SwellBodies$Maker" "along" "LSwellBodies$Step;") (by decide +kernel)
  have hfl37 := hts (.fieldLink RX3 37 "SwellBodies$Maker" "across" "LSwellBodies$Step;") (by decide +kernel)
  have hfl40 := hts (.fieldLink RX3 40 "SwellBodies$Maker" "square" "LSwellBodies$Step;") (by decide +kernel)
  have hl := lv_entry ([.ref h0]) (n := 2) (Nat.le_of_ble_eq_true rfl)
  rw [lg_entry_eq]
  generalize (lg_sl ([.ref h0]) ++ List.replicate (2 - (lg_sl ([.ref h0])).length) Slot.unset).toArray = ls at hl ⊢
  have hl : lv_has ls 2 [(0, .ref h0)] := hl
  have hJ158 : ∀ (k107 : Int32 → Int32 → Int32 → Int32 → Int32 → Int32 → Int32 → Int32 → Int32 → Int32 → Int32 → Option (Int32 × Int32 × Int32 × Int32 × Int32 × Int32 × Int32 × Int32 × Int32 × Int32)), (∀ (a1 : Int32) (mfi : Int32) (ml1 : Int32) (ml2 : Int32) (ml3 : Int32) (mc1 : Int32) (mc2 : Int32) (mc3 : Int32) (mr1 : Int32) (mr2 : Int32) (mr3 : Int32) (H : Heap) (locs : List Loc) (ls : Array Slot), k107 a1 mfi ml1 ml2 ml3 mc1 mc2 mc3 mr1 mr2 mr3 = some res → va_P (gD G) vwCl (wMk G h0 p0 ax ay az s0 sa sb sc se b0 ba bb bc be t1 t2 t3 t4 mfi ps X Y Z ss SA SB SC SE bs BA BB BC BD ml1 ml2 ml3 mc1 mc2 mc3 mr1 mr2 mr3 f1 f2 f3) H → va_D A (wMk G h0 p0 ax ay az s0 sa sb sc se b0 ba bb bc be t1 t2 t3 t4 mfi ps X Y Z ss SA SB SC SE bs BA BB BC BD ml1 ml2 ml3 mc1 mc2 mc3 mr1 mr2 mr3 f1 f2 f3) → va_S A s.heap H locs → lv_has ls 2 [(0, .ref h0), (1, .int a1)] → W p l e (headSpec wsX3_findSpace rX3_findSpace).room s m ([.ref h0] : List Value).toArray below meth c H locs 0 0 (MQ below (va_Qv (fun (u : Int32 × Int32 × Int32 × Int32 × Int32 × Int32 × Int32 × Int32 × Int32 × Int32) => u = res) (fun u t => qW G A (wMk G h0 p0 ax ay az s0 sa sb sc se b0 ba bb bc be t1 t2 t3 t4 u.1 ps X Y Z ss SA SB SC SE bs BA BB BC BD u.2.1 u.2.2.1 u.2.2.2.1 u.2.2.2.2.1 u.2.2.2.2.2.1 u.2.2.2.2.2.2.1 u.2.2.2.2.2.2.2.1 u.2.2.2.2.2.2.2.2.1 u.2.2.2.2.2.2.2.2.2 f1 f2 f3) t) A) ([.ref h0] : List Value).toArray s 0 0 A) (F0 m 107 ls [])) → ∀ (a1 : Int32) (mfi : Int32) (ml1 : Int32) (ml2 : Int32) (ml3 : Int32) (mc1 : Int32) (mc2 : Int32) (mc3 : Int32) (mr1 : Int32) (mr2 : Int32) (mr3 : Int32) (H : Heap) (locs : List Loc) (ls : Array Slot), JX3_findSpace_158 ps X Y Z k107 a1 mfi ml1 ml2 ml3 mc1 mc2 mc3 mr1 mr2 mr3 = some res → va_P (gD G) vwCl (wMk G h0 p0 ax ay az s0 sa sb sc se b0 ba bb bc be t1 t2 t3 t4 mfi ps X Y Z ss SA SB SC SE bs BA BB BC BD ml1 ml2 ml3 mc1 mc2 mc3 mr1 mr2 mr3 f1 f2 f3) H → va_D A (wMk G h0 p0 ax ay az s0 sa sb sc se b0 ba bb bc be t1 t2 t3 t4 mfi ps X Y Z ss SA SB SC SE bs BA BB BC BD ml1 ml2 ml3 mc1 mc2 mc3 mr1 mr2 mr3 f1 f2 f3) → va_S A s.heap H locs → lv_has ls 2 [(0, .ref h0), (1, .int a1)] → W p l e (headSpec wsX3_findSpace rX3_findSpace).room s m ([.ref h0] : List Value).toArray below meth c H locs 0 0 (MQ below (va_Qv (fun (u : Int32 × Int32 × Int32 × Int32 × Int32 × Int32 × Int32 × Int32 × Int32 × Int32) => u = res) (fun u t => qW G A (wMk G h0 p0 ax ay az s0 sa sb sc se b0 ba bb bc be t1 t2 t3 t4 u.1 ps X Y Z ss SA SB SC SE bs BA BB BC BD u.2.1 u.2.2.1 u.2.2.2.1 u.2.2.2.2.1 u.2.2.2.2.2.1 u.2.2.2.2.2.2.1 u.2.2.2.2.2.2.2.1 u.2.2.2.2.2.2.2.2.1 u.2.2.2.2.2.2.2.2.2 f1 f2 f3) t) A) ([.ref h0] : List Value).toArray s 0 0 A) (F0 m 158 ls []) := by
    intro k107 hk107
    intro a1 mfi ml1 ml2 ml3 mc1 mc2 mc3 mr1 mr2 mr3 H locs ls hF hP hD hS hl
    unfold JX3_findSpace_158 at hF
    refine lv_iinc (v := a1 + 1) (lv' := [(1, .int (a1 + 1)), (0, .ref h0)]) hx hb dX3_findSpace_158 hl (k := 1) rfl rfl (by decide) rfl (fun ls hl => ?_)
    refine lv_goto (tgt := 107) hx hb dX3_findSpace_161 (by decide) ?_
    exact hk107 (a1 + 1) mfi ml1 ml2 ml3 mc1 mc2 mc3 mr1 mr2 mr3 _ _ _ hF hP hD hS (lv_sub hl [1, 0] rfl)
  have hL107 : ∀ (k : Nat), ∀ (a1 : Int32) (mfi : Int32) (ml1 : Int32) (ml2 : Int32) (ml3 : Int32) (mc1 : Int32) (mc2 : Int32) (mc3 : Int32) (mr1 : Int32) (mr2 : Int32) (mr3 : Int32) (H : Heap) (locs : List Loc) (ls : Array Slot), LX3_findSpace_107 ps X Y Z k a1 mfi ml1 ml2 ml3 mc1 mc2 mc3 mr1 mr2 mr3 = some res → va_P (gD G) vwCl (wMk G h0 p0 ax ay az s0 sa sb sc se b0 ba bb bc be t1 t2 t3 t4 mfi ps X Y Z ss SA SB SC SE bs BA BB BC BD ml1 ml2 ml3 mc1 mc2 mc3 mr1 mr2 mr3 f1 f2 f3) H → va_D A (wMk G h0 p0 ax ay az s0 sa sb sc se b0 ba bb bc be t1 t2 t3 t4 mfi ps X Y Z ss SA SB SC SE bs BA BB BC BD ml1 ml2 ml3 mc1 mc2 mc3 mr1 mr2 mr3 f1 f2 f3) → va_S A s.heap H locs → lv_has ls 2 [(0, .ref h0), (1, .int a1)] → W p l e (headSpec wsX3_findSpace rX3_findSpace).room s m ([.ref h0] : List Value).toArray below meth c H locs 0 0 (MQ below (va_Qv (fun (u : Int32 × Int32 × Int32 × Int32 × Int32 × Int32 × Int32 × Int32 × Int32 × Int32) => u = res) (fun u t => qW G A (wMk G h0 p0 ax ay az s0 sa sb sc se b0 ba bb bc be t1 t2 t3 t4 u.1 ps X Y Z ss SA SB SC SE bs BA BB BC BD u.2.1 u.2.2.1 u.2.2.2.1 u.2.2.2.2.1 u.2.2.2.2.2.1 u.2.2.2.2.2.2.1 u.2.2.2.2.2.2.2.1 u.2.2.2.2.2.2.2.2.1 u.2.2.2.2.2.2.2.2.2 f1 f2 f3) t) A) ([.ref h0] : List Value).toArray s 0 0 A) (F0 m 107 ls []) := by
    intro k
    induction k with
    | zero =>
      intro a1 mfi ml1 ml2 ml3 mc1 mc2 mc3 mr1 mr2 mr3 H locs ls hF hP hD hS hl
      rw [LX3_findSpace_107] at hF
      cases hF
    | succ k ih =>
      intro a1 mfi ml1 ml2 ml3 mc1 mc2 mc3 mr1 mr2 mr3 H locs ls hF hP hD hS hl
      rw [LX3_findSpace_107] at hF
      refine lv_iload_n hx hb dX3_findSpace_107 rfl (lv_at hl 1 rfl) ?_
      refine lv_aload_n hx hb dX3_findSpace_108 rfl (lv_at hl 0 rfl) ?_
      refine va_get (ci := 3) (v := .ref p0) (C := RX3) (T := TX3) (N := 8) hx hb hts hin3 hown hK hP 0 rfl rfl 0 (by decide) hfl14 (fun _ h9 => h9) rfl dX3_findSpace_109 ?_
      refine va_get (ci := 4) (v := .int ps) (C := RX4) (T := TX4) (N := 4) hx hb hts hin4 hown hK hP 1 rfl rfl 3 (by decide) hfl46 (fun _ h9 => h9) rfl dX3_findSpace_112 ?_
      refine lv_icmp_ge (tgt := 164) hx hb dX3_findSpace_115 (by decide) (fun c_4 => ?_) (fun c_4 => ?_)
      · replace hF := it_p c_4 hF
        exact W.vret hx hb hr (fun t ht hW => ⟨⟨(mfi, ml1, ml2, ml3, mc1, mc2, mc3, mr1, mr2, mr3), rfl, so_e hF, qW_mk ht hP hK hW hD⟩, hS.F ht⟩) hS.2.2 dX3_findSpace_164
      · replace hF := it_n c_4 hF
        refine lv_aload_n hx hb dX3_findSpace_118 rfl (lv_at hl 0 rfl) ?_
        refine va_get (ci := 3) (v := .int mfi) (C := RX3) (T := TX3) (N := 8) hx hb hts hin3 hown hK hP 0 rfl rfl 7 (by decide) hfl88 (fun _ h9 => h9) rfl dX3_findSpace_119 ?_
        refine lv_iconst (v := 2) hx hb dX3_findSpace_122 (by decide) ?_
        refine lv_icmp_ne (tgt := 164) hx hb dX3_findSpace_123 (by decide) (fun c_5 => ?_) (fun c_5 => ?_)
        · replace hF := it_n c_5 hF
          exact W.vret hx hb hr (fun t ht hW => ⟨⟨(mfi, ml1, ml2, ml3, mc1, mc2, mc3, mr1, mr2, mr3), rfl, so_e hF, qW_mk ht hP hK hW hD⟩, hS.F ht⟩) hS.2.2 dX3_findSpace_164
        · replace hF := it_p c_5 hF
          refine lv_aload_n hx hb dX3_findSpace_126 rfl (lv_at hl 0 rfl) ?_
          refine va_get (ci := 3) (v := .ref t2) (C := RX3) (T := TX3) (N := 8) hx hb hts hin3 hown hK hP 0 rfl rfl 4 (by decide) hfl37 (fun _ h9 => h9) rfl dX3_findSpace_127 ?_
          refine lv_aload_n hx hb dX3_findSpace_130 rfl (lv_at hl 0 rfl) ?_
          refine va_get (ci := 3) (v := .ref p0) (C := RX3) (T := TX3) (N := 8) hx hb hts hin3 hown hK hP 0 rfl rfl 0 (by decide) hfl14 (fun _ h9 => h9) rfl dX3_findSpace_131 ?_
          refine lv_iconst (v := 0) hx hb dX3_findSpace_134 (by decide) ?_
          refine lv_iload_n hx hb dX3_findSpace_135 rfl (lv_at hl 1 rfl) ?_
          obtain ⟨v_6, hv_6, hF⟩ := bd_s hF
          refine rw_ve (wf := (fun (u : Int32 × Int32 × Int32) => (wStpPt G t2 p0 ax ay az 121 u.1 u.2.1 u.2.2 ps X Y Z))) (wr := [(h0, .inr (3, [.ref p0, .ref s0, .ref b0, .ref t1, .ref t2, .ref t3, .ref t4, .int mfi])), (s0, .inr (1, [.ref sa, .ref sb, .ref sc, .ref se, .int ss])), (sa, .inl (gI G, 80, .inl SA)), (sb, .inl (gI G, 80, .inl SB)), (sc, .inl (gI G, 80, .inl SC)), (se, .inl (gI G, 80, .inl SE)), (b0, .inr (1, [.ref ba, .ref bb, .ref bc, .ref be, .int bs])), (ba, .inl (gI G, 3, .inl BA)), (bb, .inl (gI G, 3, .inl BB)), (bc, .inl (gI G, 3, .inl BC)), (be, .inl (gI G, 3, .inl BD)), (t1, .inr (6, [.int ml1, .int ml2, .int ml3])), (t3, .inr (6, [.int mr1, .int mr2, .int mr3])), (t4, .inr (6, [.int f1, .int f2, .int f3]))]) (va_runV (As := [.ref p0, .int 0, .int a1]) (rest := []) ⟨hx, hb, hml, hown, hts⟩ (kX6_lead l G t2 p0 ax ay az H.size 121 mc1 mc2 mc3 ps X Y Z 0 a1 v_6 hv_6) (cwV 3 hts gX3_findSpace_X6_lead rfl rfl rfl (by decide +kernel) ⟨Nat.le_of_ble_eq_true rfl, Nat.le_of_ble_eq_true rfl⟩) (pvW (q0 := 0) 6 hK (hP.sub (ws' := (wStpPt G t2 p0 ax ay az 121 mc1 mc2 mc3 ps X Y Z)) [16, 1, 2, 3, 4] rfl) (hD.sub (ws' := (wStpPt G t2 p0 ax ay az 121 mc1 mc2 mc3 ps X Y Z)) [16, 1, 2, 3, 4] (by decide) rfl) rfl rfl) rfl rfl hl.1 rfl (lv_room (Nat.le_of_ble_eq_true rfl)) dX3_findSpace_136 ⟨Nat.le_of_ble_eq_true rfl, Nat.le_of_ble_eq_true rfl⟩) hP hD hS hA [16, 1, 2, 3, 4] [0, 5, 6, 7, 8, 9, 10, 11, 12, 13, 14, 15, 17, 18] rfl rfl (by decide) (by decide) (fun H locs  hP hD hS => ?_)
          have hP : va_P (gD G) vwCl (wMk G h0 p0 ax ay az s0 sa sb sc se b0 ba bb bc be t1 t2 t3 t4 mfi ps X Y Z ss SA SB SC SE bs BA BB BC BD ml1 ml2 ml3 v_6.1 v_6.2.1 v_6.2.2 mr1 mr2 mr3 f1 f2 f3) H := hP.sub [0, 15, 16, 17, 18, 1, 2, 3, 4, 5, 6, 7, 8, 9, 10, 11, 14, 12, 13] rfl
          have hD : va_D A (wMk G h0 p0 ax ay az s0 sa sb sc se b0 ba bb bc be t1 t2 t3 t4 mfi ps X Y Z ss SA SB SC SE bs BA BB BC BD ml1 ml2 ml3 v_6.1 v_6.2.1 v_6.2.2 mr1 mr2 mr3 f1 f2 f3) := hD.sub [0, 15, 16, 17, 18, 1, 2, 3, 4, 5, 6, 7, 8, 9, 10, 11, 14, 12, 13] (by decide) rfl
          refine lv_aload_n hx hb dX3_findSpace_139 rfl (lv_at hl 0 rfl) ?_
          refine va_get (ci := 3) (v := .ref t3) (C := RX3) (T := TX3) (N := 8) hx hb hts hin3 hown hK hP 0 rfl rfl 5 (by decide) hfl40 (fun _ h9 => h9) rfl dX3_findSpace_140 ?_
          refine lv_aload_n hx hb dX3_findSpace_143 rfl (lv_at hl 0 rfl) ?_
          refine va_get (ci := 3) (v := .ref t2) (C := RX3) (T := TX3) (N := 8) hx hb hts hin3 hown hK hP 0 rfl rfl 4 (by decide) hfl37 (fun _ h9 => h9) rfl dX3_findSpace_144 ?_
          obtain ⟨v_7, hv_7, hF⟩ := bd_s hF
          refine ro_ie (va_runV (As := [.ref t2]) (rest := []) ⟨hx, hb, hml, hown, hts⟩ (kX6_times l G t3 t2 mr1 mr2 mr3 v_6.1 v_6.2.1 v_6.2.2 v_7 hv_7) (cwV 1 hts gX3_findSpace_X6_times rfl rfl rfl (by decide +kernel) ⟨Nat.le_of_ble_eq_true rfl, Nat.le_of_ble_eq_true rfl⟩) (pvR (q0 := 0) 6 hK (hP.sub (ws' := (wStp2 G t3 t2 mr1 mr2 mr3 v_6.1 v_6.2.1 v_6.2.2)) [17, 16] rfl) rfl rfl) rfl rfl hl.1 rfl (lv_room (Nat.le_of_ble_eq_true rfl)) dX3_findSpace_147 ⟨Nat.le_of_ble_eq_true rfl, Nat.le_of_ble_eq_true rfl⟩) ?_
          refine lv_if_eq (tgt := 158) hx hb dX3_findSpace_150 (by decide) (fun c_8 => ?_) (fun c_8 => ?_)
          · replace hF := it_p c_8 hF
            exact hJ158 _ ih a1 mfi ml1 ml2 ml3 v_6.1 v_6.2.1 v_6.2.2 mr1 mr2 mr3 _ _ _ hF hP hD hS (lv_sub hl [0, 1] rfl)
          · replace hF := it_n c_8 hF
            refine lv_aload_n hx hb dX3_findSpace_153 rfl (lv_at hl 0 rfl) ?_
            refine lv_iconst (v := 3) hx hb dX3_findSpace_154 (by decide) ?_
            refine va_put (ci := 3) (v := .int 3) (ty := .int) (C := RX3) (T := TX3) (N := 8) hx hb hts hin3 tyX3 tyX3_ok nmX3 hown hK hP hD hS 0 rfl rfl 7 (by decide) hfl88 (fun _ h9 => h9) rfl (by decide +kernel) rfl rfl (Nat.le_of_ble_eq_true rfl) dX3_findSpace_155 (fun H locs hP hD hS => ?_)
            have hP : va_P (gD G) vwCl (wMk G h0 p0 ax ay az s0 sa sb sc se b0 ba bb bc be t1 t2 t3 t4 3 ps X Y Z ss SA SB SC SE bs BA BB BC BD ml1 ml2 ml3 v_6.1 v_6.2.1 v_6.2.2 mr1 mr2 mr3 f1 f2 f3) H := hP
            have hD : va_D A (wMk G h0 p0 ax ay az s0 sa sb sc se b0 ba bb bc be t1 t2 t3 t4 3 ps X Y Z ss SA SB SC SE bs BA BB BC BD ml1 ml2 ml3 v_6.1 v_6.2.1 v_6.2.2 mr1 mr2 mr3 f1 f2 f3) := hD
            exact hJ158 _ ih a1 3 ml1 ml2 ml3 v_6.1 v_6.2.1 v_6.2.2 mr1 mr2 mr3 _ _ _ hF hP hD hS (lv_sub hl [0, 1] rfl)
  have hJ105 : ∀ (mfi : Int32) (ml1 : Int32) (ml2 : Int32) (ml3 : Int32) (mc1 : Int32) (mc2 : Int32) (mc3 : Int32) (mr1 : Int32) (mr2 : Int32) (mr3 : Int32) (H : Heap) (locs : List Loc) (ls : Array Slot), JX3_findSpace_105 ps X Y Z mfi ml1 ml2 ml3 mc1 mc2 mc3 mr1 mr2 mr3 = some res → va_P (gD G) vwCl (wMk G h0 p0 ax ay az s0 sa sb sc se b0 ba bb bc be t1 t2 t3 t4 mfi ps X Y Z ss SA SB SC SE bs BA BB BC BD ml1 ml2 ml3 mc1 mc2 mc3 mr1 mr2 mr3 f1 f2 f3) H → va_D A (wMk G h0 p0 ax ay az s0 sa sb sc se b0 ba bb bc be t1 t2 t3 t4 mfi ps X Y Z ss SA SB SC SE bs BA BB BC BD ml1 ml2 ml3 mc1 mc2 mc3 mr1 mr2 mr3 f1 f2 f3) → va_S A s.heap H locs → lv_has ls 2 [(0, .ref h0)] → W p l e (headSpec wsX3_findSpace rX3_findSpace).room s m ([.ref h0] : List Value).toArray below meth c H locs 0 0 (MQ below (va_Qv (fun (u : Int32 × Int32 × Int32 × Int32 × Int32 × Int32 × Int32 × Int32 × Int32 × Int32) => u = res) (fun u t => qW G A (wMk G h0 p0 ax ay az s0 sa sb sc se b0 ba bb bc be t1 t2 t3 t4 u.1 ps X Y Z ss SA SB SC SE bs BA BB BC BD u.2.1 u.2.2.1 u.2.2.2.1 u.2.2.2.2.1 u.2.2.2.2.2.1 u.2.2.2.2.2.2.1 u.2.2.2.2.2.2.2.1 u.2.2.2.2.2.2.2.2.1 u.2.2.2.2.2.2.2.2.2 f1 f2 f3) t) A) ([.ref h0] : List Value).toArray s 0 0 A) (F0 m 105 ls []) := by
    intro mfi ml1 ml2 ml3 mc1 mc2 mc3 mr1 mr2 mr3 H locs ls hF hP hD hS hl
    unfold JX3_findSpace_105 at hF
    refine lv_iconst (v := 2) hx hb dX3_findSpace_105 (by decide) ?_
    refine lv_istore_n (lv' := [(1, .int 2), (0, .ref h0)]) hx hb dX3_findSpace_106 rfl hl (by decide) rfl (fun ls hl => ?_)
    exact hL107 FU 2 mfi ml1 ml2 ml3 mc1 mc2 mc3 mr1 mr2 mr3 _ _ _ hF hP hD hS (lv_sub hl [1, 0] rfl)
  have hJ99 : ∀ (k37 : Int32 → Int32 → Int32 → Int32 → Int32 → Int32 → Int32 → Int32 → Int32 → Int32 → Int32 → Option (Int32 × Int32 × Int32 × Int32 × Int32 × Int32 × Int32 × Int32 × Int32 × Int32)), (∀ (a1 : Int32) (mfi : Int32) (ml1 : Int32) (ml2 : Int32) (ml3 : Int32) (mc1 : Int32) (mc2 : Int32) (mc3 : Int32) (mr1 : Int32) (mr2 : Int32) (mr3 : Int32) (H : Heap) (locs : List Loc) (ls : Array Slot), k37 a1 mfi ml1 ml2 ml3 mc1 mc2 mc3 mr1 mr2 mr3 = some res → va_P (gD G) vwCl (wMk G h0 p0 ax ay az s0 sa sb sc se b0 ba bb bc be t1 t2 t3 t4 mfi ps X Y Z ss SA SB SC SE bs BA BB BC BD ml1 ml2 ml3 mc1 mc2 mc3 mr1 mr2 mr3 f1 f2 f3) H → va_D A (wMk G h0 p0 ax ay az s0 sa sb sc se b0 ba bb bc be t1 t2 t3 t4 mfi ps X Y Z ss SA SB SC SE bs BA BB BC BD ml1 ml2 ml3 mc1 mc2 mc3 mr1 mr2 mr3 f1 f2 f3) → va_S A s.heap H locs → lv_has ls 2 [(0, .ref h0), (1, .int a1)] → W p l e (headSpec wsX3_findSpace rX3_findSpace).room s m ([.ref h0] : List Value).toArray below meth c H locs 0 0 (MQ below (va_Qv (fun (u : Int32 × Int32 × Int32 × Int32 × Int32 × Int32 × Int32 × Int32 × Int32 × Int32) => u = res) (fun u t => qW G A (wMk G h0 p0 ax ay az s0 sa sb sc se b0 ba bb bc be t1 t2 t3 t4 u.1 ps X Y Z ss SA SB SC SE bs BA BB BC BD u.2.1 u.2.2.1 u.2.2.2.1 u.2.2.2.2.1 u.2.2.2.2.2.1 u.2.2.2.2.2.2.1 u.2.2.2.2.2.2.2.1 u.2.2.2.2.2.2.2.2.1 u.2.2.2.2.2.2.2.2.2 f1 f2 f3) t) A) ([.ref h0] : List Value).toArray s 0 0 A) (F0 m 37 ls [])) → ∀ (a1 : Int32) (mfi : Int32) (ml1 : Int32) (ml2 : Int32) (ml3 : Int32) (mc1 : Int32) (mc2 : Int32) (mc3 : Int32) (mr1 : Int32) (mr2 : Int32) (mr3 : Int32) (H : Heap) (locs : List Loc) (ls : Array Slot), JX3_findSpace_99 ps X Y Z k37 a1 mfi ml1 ml2 ml3 mc1 mc2 mc3 mr1 mr2 mr3 = some res → va_P (gD G) vwCl (wMk G h0 p0 ax ay az s0 sa sb sc se b0 ba bb bc be t1 t2 t3 t4 mfi ps X Y Z ss SA SB SC SE bs BA BB BC BD ml1 ml2 ml3 mc1 mc2 mc3 mr1 mr2 mr3 f1 f2 f3) H → va_D A (wMk G h0 p0 ax ay az s0 sa sb sc se b0 ba bb bc be t1 t2 t3 t4 mfi ps X Y Z ss SA SB SC SE bs BA BB BC BD ml1 ml2 ml3 mc1 mc2 mc3 mr1 mr2 mr3 f1 f2 f3) → va_S A s.heap H locs → lv_has ls 2 [(0, .ref h0), (1, .int a1)] → W p l e (headSpec wsX3_findSpace rX3_findSpace).room s m ([.ref h0] : List Value).toArray below meth c H locs 0 0 (MQ below (va_Qv (fun (u : Int32 × Int32 × Int32 × Int32 × Int32 × Int32 × Int32 × Int32 × Int32 × Int32) => u = res) (fun u t => qW G A (wMk G h0 p0 ax ay az s0 sa sb sc se b0 ba bb bc be t1 t2 t3 t4 u.1 ps X Y Z ss SA SB SC SE bs BA BB BC BD u.2.1 u.2.2.1 u.2.2.2.1 u.2.2.2.2.1 u.2.2.2.2.2.1 u.2.2.2.2.2.2.1 u.2.2.2.2.2.2.2.1 u.2.2.2.2.2.2.2.2.1 u.2.2.2.2.2.2.2.2.2 f1 f2 f3) t) A) ([.ref h0] : List Value).toArray s 0 0 A) (F0 m 99 ls []) := by
    intro k37 hk37
    intro a1 mfi ml1 ml2 ml3 mc1 mc2 mc3 mr1 mr2 mr3 H locs ls hF hP hD hS hl
    unfold JX3_findSpace_99 at hF
    refine lv_iinc (v := a1 + 1) (lv' := [(1, .int (a1 + 1)), (0, .ref h0)]) hx hb dX3_findSpace_99 hl (k := 1) rfl rfl (by decide) rfl (fun ls hl => ?_)
    refine lv_goto (tgt := 37) hx hb dX3_findSpace_102 (by decide) ?_
    exact hk37 (a1 + 1) mfi ml1 ml2 ml3 mc1 mc2 mc3 mr1 mr2 mr3 _ _ _ hF hP hD hS (lv_sub hl [1, 0] rfl)
  have hL37 : ∀ (k : Nat), ∀ (a1 : Int32) (mfi : Int32) (ml1 : Int32) (ml2 : Int32) (ml3 : Int32) (mc1 : Int32) (mc2 : Int32) (mc3 : Int32) (mr1 : Int32) (mr2 : Int32) (mr3 : Int32) (H : Heap) (locs : List Loc) (ls : Array Slot), LX3_findSpace_37 ps X Y Z k a1 mfi ml1 ml2 ml3 mc1 mc2 mc3 mr1 mr2 mr3 = some res → va_P (gD G) vwCl (wMk G h0 p0 ax ay az s0 sa sb sc se b0 ba bb bc be t1 t2 t3 t4 mfi ps X Y Z ss SA SB SC SE bs BA BB BC BD ml1 ml2 ml3 mc1 mc2 mc3 mr1 mr2 mr3 f1 f2 f3) H → va_D A (wMk G h0 p0 ax ay az s0 sa sb sc se b0 ba bb bc be t1 t2 t3 t4 mfi ps X Y Z ss SA SB SC SE bs BA BB BC BD ml1 ml2 ml3 mc1 mc2 mc3 mr1 mr2 mr3 f1 f2 f3) → va_S A s.heap H locs → lv_has ls 2 [(0, .ref h0), (1, .int a1)] → W p l e (headSpec wsX3_findSpace rX3_findSpace).room s m ([.ref h0] : List Value).toArray below meth c H locs 0 0 (MQ below (va_Qv (fun (u : Int32 × Int32 × Int32 × Int32 × Int32 × Int32 × Int32 × Int32 × Int32 × Int32) => u = res) (fun u t => qW G A (wMk G h0 p0 ax ay az s0 sa sb sc se b0 ba bb bc be t1 t2 t3 t4 u.1 ps X Y Z ss SA SB SC SE bs BA BB BC BD u.2.1 u.2.2.1 u.2.2.2.1 u.2.2.2.2.1 u.2.2.2.2.2.1 u.2.2.2.2.2.2.1 u.2.2.2.2.2.2.2.1 u.2.2.2.2.2.2.2.2.1 u.2.2.2.2.2.2.2.2.2 f1 f2 f3) t) A) ([.ref h0] : List Value).toArray s 0 0 A) (F0 m 37 ls []) := by
    intro k
    induction k with
    | zero =>
      intro a1 mfi ml1 ml2 ml3 mc1 mc2 mc3 mr1 mr2 mr3 H locs ls hF hP hD hS hl
      rw [LX3_findSpace_37] at hF
      cases hF
    | succ k ih =>
      intro a1 mfi ml1 ml2 ml3 mc1 mc2 mc3 mr1 mr2 mr3 H locs ls hF hP hD hS hl
      rw [LX3_findSpace_37] at hF
      refine lv_iload_n hx hb dX3_findSpace_37 rfl (lv_at hl 1 rfl) ?_
      refine lv_aload_n hx hb dX3_findSpace_38 rfl (lv_at hl 0 rfl) ?_
      refine va_get (ci := 3) (v := .ref p0) (C := RX3) (T := TX3) (N := 8) hx hb hts hin3 hown hK hP 0 rfl rfl 0 (by decide) hfl14 (fun _ h9 => h9) rfl dX3_findSpace_39 ?_
      refine va_get (ci := 4) (v := .int ps) (C := RX4) (T := TX4) (N := 4) hx hb hts hin4 hown hK hP 1 rfl rfl 3 (by decide) hfl46 (fun _ h9 => h9) rfl dX3_findSpace_42 ?_
      refine lv_icmp_ge (tgt := 105) hx hb dX3_findSpace_45 (by decide) (fun c_3 => ?_) (fun c_3 => ?_)
      · replace hF := it_p c_3 hF
        exact hJ105 mfi ml1 ml2 ml3 mc1 mc2 mc3 mr1 mr2 mr3 _ _ _ hF hP hD hS (lv_sub hl [0] rfl)
      · replace hF := it_n c_3 hF
        refine lv_aload_n hx hb dX3_findSpace_48 rfl (lv_at hl 0 rfl) ?_
        refine va_get (ci := 3) (v := .int mfi) (C := RX3) (T := TX3) (N := 8) hx hb hts hin3 hown hK hP 0 rfl rfl 7 (by decide) hfl88 (fun _ h9 => h9) rfl dX3_findSpace_49 ?_
        refine lv_iconst (v := 1) hx hb dX3_findSpace_52 (by decide) ?_
        refine lv_icmp_ne (tgt := 105) hx hb dX3_findSpace_53 (by decide) (fun c_9 => ?_) (fun c_9 => ?_)
        · replace hF := it_n c_9 hF
          exact hJ105 mfi ml1 ml2 ml3 mc1 mc2 mc3 mr1 mr2 mr3 _ _ _ hF hP hD hS (lv_sub hl [0] rfl)
        · replace hF := it_p c_9 hF
          refine lv_aload_n hx hb dX3_findSpace_56 rfl (lv_at hl 0 rfl) ?_
          refine va_get (ci := 3) (v := .ref t2) (C := RX3) (T := TX3) (N := 8) hx hb hts hin3 hown hK hP 0 rfl rfl 4 (by decide) hfl37 (fun _ h9 => h9) rfl dX3_findSpace_57 ?_
          refine lv_aload_n hx hb dX3_findSpace_60 rfl (lv_at hl 0 rfl) ?_
          refine va_get (ci := 3) (v := .ref p0) (C := RX3) (T := TX3) (N := 8) hx hb hts hin3 hown hK hP 0 rfl rfl 0 (by decide) hfl14 (fun _ h9 => h9) rfl dX3_findSpace_61 ?_
          refine lv_iconst (v := 0) hx hb dX3_findSpace_64 (by decide) ?_
          refine lv_iload_n hx hb dX3_findSpace_65 rfl (lv_at hl 1 rfl) ?_
          obtain ⟨v_10, hv_10, hF⟩ := bd_s hF
          refine rw_ve (wf := (fun (u : Int32 × Int32 × Int32) => (wStpPt G t2 p0 ax ay az 121 u.1 u.2.1 u.2.2 ps X Y Z))) (wr := [(h0, .inr (3, [.ref p0, .ref s0, .ref b0, .ref t1, .ref t2, .ref t3, .ref t4, .int mfi])), (s0, .inr (1, [.ref sa, .ref sb, .ref sc, .ref se, .int ss])), (sa, .inl (gI G, 80, .inl SA)), (sb, .inl (gI G, 80, .inl SB)), (sc, .inl (gI G, 80, .inl SC)), (se, .inl (gI G, 80, .inl SE)), (b0, .inr (1, [.ref ba, .ref bb, .ref bc, .ref be, .int bs])), (ba, .inl (gI G, 3, .inl BA)), (bb, .inl (gI G, 3, .inl BB)), (bc, .inl (gI G, 3, .inl BC)), (be, .inl (gI G, 3, .inl BD)), (t1, .inr (6, [.int ml1, .int ml2, .int ml3])), (t3, .inr (6, [.int mr1, .int mr2, .int mr3])), (t4, .inr (6, [.int f1, .int f2, .int f3]))]) (va_runV (As := [.ref p0, .int 0, .int a1]) (rest := []) ⟨hx, hb, hml, hown, hts⟩ (kX6_lead l G t2 p0 ax ay az H.size 121 mc1 mc2 mc3 ps X Y Z 0 a1 v_10 hv_10) (cwV 3 hts gX3_findSpace_X6_lead rfl rfl rfl (by decide +kernel) ⟨Nat.le_of_ble_eq_true rfl, Nat.le_of_ble_eq_true rfl⟩) (pvW (q0 := 0) 6 hK (hP.sub (ws' := (wStpPt G t2 p0 ax ay az 121 mc1 mc2 mc3 ps X Y Z)) [16, 1, 2, 3, 4] rfl) (hD.sub (ws' := (wStpPt G t2 p0 ax ay az 121 mc1 mc2 mc3 ps X Y Z)) [16, 1, 2, 3, 4] (by decide) rfl) rfl rfl) rfl rfl hl.1 rfl (lv_room (Nat.le_of_ble_eq_true rfl)) dX3_findSpace_66 ⟨Nat.le_of_ble_eq_true rfl, Nat.le_of_ble_eq_true rfl⟩) hP hD hS hA [16, 1, 2, 3, 4] [0, 5, 6, 7, 8, 9, 10, 11, 12, 13, 14, 15, 17, 18] rfl rfl (by decide) (by decide) (fun H locs  hP hD hS => ?_)
          have hP : va_P (gD G) vwCl (wMk G h0 p0 ax ay az s0 sa sb sc se b0 ba bb bc be t1 t2 t3 t4 mfi ps X Y Z ss SA SB SC SE bs BA BB BC BD ml1 ml2 ml3 v_10.1 v_10.2.1 v_10.2.2 mr1 mr2 mr3 f1 f2 f3) H := hP.sub [0, 15, 16, 17, 18, 1, 2, 3, 4, 5, 6, 7, 8, 9, 10, 11, 14, 12, 13] rfl
          have hD : va_D A (wMk G h0 p0 ax ay az s0 sa sb sc se b0 ba bb bc be t1 t2 t3 t4 mfi ps X Y Z ss SA SB SC SE bs BA BB BC BD ml1 ml2 ml3 v_10.1 v_10.2.1 v_10.2.2 mr1 mr2 mr3 f1 f2 f3) := hD.sub [0, 15, 16, 17, 18, 1, 2, 3, 4, 5, 6, 7, 8, 9, 10, 11, 14, 12, 13] (by decide) rfl
          refine lv_aload_n hx hb dX3_findSpace_69 rfl (lv_at hl 0 rfl) ?_
          refine va_get (ci := 3) (v := .ref t3) (C := RX3) (T := TX3) (N := 8) hx hb hts hin3 hown hK hP 0 rfl rfl 5 (by decide) hfl40 (fun _ h9 => h9) rfl dX3_findSpace_70 ?_
          refine lv_aload_n hx hb dX3_findSpace_73 rfl (lv_at hl 0 rfl) ?_
          refine va_get (ci := 3) (v := .ref t1) (C := RX3) (T := TX3) (N := 8) hx hb hts hin3 hown hK hP 0 rfl rfl 3 (by decide) hfl33 (fun _ h9 => h9) rfl dX3_findSpace_74 ?_
          refine lv_aload_n hx hb dX3_findSpace_77 rfl (lv_at hl 0 rfl) ?_
          refine va_get (ci := 3) (v := .ref t2) (C := RX3) (T := TX3) (N := 8) hx hb hts hin3 hown hK hP 0 rfl rfl 4 (by decide) hfl37 (fun _ h9 => h9) rfl dX3_findSpace_78 ?_
          obtain ⟨v_11, hv_11, hF⟩ := bd_s hF
          refine rw_ve (wf := (fun (u : Int32 × Int32 × Int32) => (wStp3 G t3 t1 t2 u.1 u.2.1 u.2.2 ml1 ml2 ml3 v_10.1 v_10.2.1 v_10.2.2))) (wr := [(h0, .inr (3, [.ref p0, .ref s0, .ref b0, .ref t1, .ref t2, .ref t3, .ref t4, .int mfi])), (p0, .inr (4, [.ref ax, .ref ay, .ref az, .int ps])), (ax, .inl (gI G, 121, .inl X)), (ay, .inl (gI G, 121, .inl Y)), (az, .inl (gI G, 121, .inl Z)), (s0, .inr (1, [.ref sa, .ref sb, .ref sc, .ref se, .int ss])), (sa, .inl (gI G, 80, .inl SA)), (sb, .inl (gI G, 80, .inl SB)), (sc, .inl (gI G, 80, .inl SC)), (se, .inl (gI G, 80, .inl SE)), (b0, .inr (1, [.ref ba, .ref bb, .ref bc, .ref be, .int bs])), (ba, .inl (gI G, 3, .inl BA)), (bb, .inl (gI G, 3, .inl BB)), (bc, .inl (gI G, 3, .inl BC)), (be, .inl (gI G, 3, .inl BD)), (t4, .inr (6, [.int f1, .int f2, .int f3]))]) (va_runV (As := [.ref t1, .ref t2]) (rest := []) ⟨hx, hb, hml, hown, hts⟩ (kX6_square l G t3 t1 t2 H.size mr1 mr2 mr3 ml1 ml2 ml3 v_10.1 v_10.2.1 v_10.2.2 v_11 hv_11) (cwV 2 hts gX3_findSpace_X6_square rfl rfl rfl (by decide +kernel) ⟨Nat.le_of_ble_eq_true rfl, Nat.le_of_ble_eq_true rfl⟩) (pvW (q0 := 0) 6 hK (hP.sub (ws' := (wStp3 G t3 t1 t2 mr1 mr2 mr3 ml1 ml2 ml3 v_10.1 v_10.2.1 v_10.2.2)) [17, 15, 16] rfl) (hD.sub (ws' := (wStp3 G t3 t1 t2 mr1 mr2 mr3 ml1 ml2 ml3 v_10.1 v_10.2.1 v_10.2.2)) [17, 15, 16] (by decide) rfl) rfl rfl) rfl rfl hl.1 rfl (lv_room (Nat.le_of_ble_eq_true rfl)) dX3_findSpace_81 ⟨Nat.le_of_ble_eq_true rfl, Nat.le_of_ble_eq_true rfl⟩) hP hD hS hA [17, 15, 16] [0, 1, 2, 3, 4, 5, 6, 7, 8, 9, 10, 11, 12, 13, 14, 18] rfl rfl (by decide) (by decide) (fun H locs  hP hD hS => ?_)
          have hP : va_P (gD G) vwCl (wMk G h0 p0 ax ay az s0 sa sb sc se b0 ba bb bc be t1 t2 t3 t4 mfi ps X Y Z ss SA SB SC SE bs BA BB BC BD ml1 ml2 ml3 v_10.1 v_10.2.1 v_10.2.2 v_11.1 v_11.2.1 v_11.2.2 f1 f2 f3) H := hP.sub [0, 1, 2, 3, 4, 5, 6, 7, 8, 9, 10, 11, 12, 13, 14, 17, 18, 16, 15] rfl
          have hD : va_D A (wMk G h0 p0 ax ay az s0 sa sb sc se b0 ba bb bc be t1 t2 t3 t4 mfi ps X Y Z ss SA SB SC SE bs BA BB BC BD ml1 ml2 ml3 v_10.1 v_10.2.1 v_10.2.2 v_11.1 v_11.2.1 v_11.2.2 f1 f2 f3) := hD.sub [0, 1, 2, 3, 4, 5, 6, 7, 8, 9, 10, 11, 12, 13, 14, 17, 18, 16, 15] (by decide) rfl
          refine lv_aload_n hx hb dX3_findSpace_84 rfl (lv_at hl 0 rfl) ?_
          refine va_get (ci := 3) (v := .ref t3) (C := RX3) (T := TX3) (N := 8) hx hb hts hin3 hown hK hP 0 rfl rfl 5 (by decide) hfl40 (fun _ h9 => h9) rfl dX3_findSpace_85 ?_
          obtain ⟨v_12, hv_12, hF⟩ := bd_s hF
          refine ro_ze (va_runV (As := []) (rest := []) ⟨hx, hb, hml, hown, hts⟩ (kX6_isNought l G t3 v_11.1 v_11.2.1 v_11.2.2 v_12 hv_12) (cwV 0 hts gX3_findSpace_X6_isNought rfl rfl rfl (by decide +kernel) ⟨Nat.le_of_ble_eq_true rfl, Nat.le_of_ble_eq_true rfl⟩) (pvR (q0 := 0) 6 hK (hP.sub (ws' := (wStp G t3 v_11.1 v_11.2.1 v_11.2.2)) [17] rfl) rfl rfl) rfl rfl hl.1 rfl (lv_room (Nat.le_of_ble_eq_true rfl)) dX3_findSpace_88 ⟨Nat.le_of_ble_eq_true rfl, Nat.le_of_ble_eq_true rfl⟩) (fun hb_13 => ?_)
          refine lv_if_ne (tgt := 99) hx hb dX3_findSpace_91 (by decide) (fun c_14 => ?_) (fun c_14 => ?_)
          · replace hF := it_n c_14 hF
            exact hJ99 _ ih a1 mfi ml1 ml2 ml3 v_10.1 v_10.2.1 v_10.2.2 v_11.1 v_11.2.1 v_11.2.2 _ _ _ hF hP hD hS (lv_sub hl [0, 1] rfl)
          · replace hF := it_p c_14 hF
            refine lv_aload_n hx hb dX3_findSpace_94 rfl (lv_at hl 0 rfl) ?_
            refine lv_iconst (v := 2) hx hb dX3_findSpace_95 (by decide) ?_
            refine va_put (ci := 3) (v := .int 2) (ty := .int) (C := RX3) (T := TX3) (N := 8) hx hb hts hin3 tyX3 tyX3_ok nmX3 hown hK hP hD hS 0 rfl rfl 7 (by decide) hfl88 (fun _ h9 => h9) rfl (by decide +kernel) rfl rfl (Nat.le_of_ble_eq_true rfl) dX3_findSpace_96 (fun H locs hP hD hS => ?_)
            have hP : va_P (gD G) vwCl (wMk G h0 p0 ax ay az s0 sa sb sc se b0 ba bb bc be t1 t2 t3 t4 2 ps X Y Z ss SA SB SC SE bs BA BB BC BD ml1 ml2 ml3 v_10.1 v_10.2.1 v_10.2.2 v_11.1 v_11.2.1 v_11.2.2 f1 f2 f3) H := hP
            have hD : va_D A (wMk G h0 p0 ax ay az s0 sa sb sc se b0 ba bb bc be t1 t2 t3 t4 2 ps X Y Z ss SA SB SC SE bs BA BB BC BD ml1 ml2 ml3 v_10.1 v_10.2.1 v_10.2.2 v_11.1 v_11.2.1 v_11.2.2 f1 f2 f3) := hD
            exact hJ99 _ ih a1 2 ml1 ml2 ml3 v_10.1 v_10.2.1 v_10.2.2 v_11.1 v_11.2.1 v_11.2.2 _ _ _ hF hP hD hS (lv_sub hl [0, 1] rfl)
  unfold fX3_findSpace at hF
  refine lv_aload_n hx hb dX3_findSpace_0 rfl (lv_at hl 0 rfl) ?_
  refine lv_iconst (v := 0) hx hb dX3_findSpace_1 (by decide) ?_
  refine va_put (ci := 3) (v := .int 0) (ty := .int) (C := RX3) (T := TX3) (N := 8) hx hb hts hin3 tyX3 tyX3_ok nmX3 hown hK hP hD hS 0 rfl rfl 7 (by decide) hfl88 (fun _ h9 => h9) rfl (by decide +kernel) rfl rfl (Nat.le_of_ble_eq_true rfl) dX3_findSpace_2 (fun H locs hP hD hS => ?_)
  have hP : va_P (gD G) vwCl (wMk G h0 p0 ax ay az s0 sa sb sc se b0 ba bb bc be t1 t2 t3 t4 0 ps X Y Z ss SA SB SC SE bs BA BB BC BD l1 l2 l3 c1 c2 c3 r1 r2 r3 f1 f2 f3) H := hP
  have hD : va_D A (wMk G h0 p0 ax ay az s0 sa sb sc se b0 ba bb bc be t1 t2 t3 t4 0 ps X Y Z ss SA SB SC SE bs BA BB BC BD l1 l2 l3 c1 c2 c3 r1 r2 r3 f1 f2 f3) := hD
  refine lv_aload_n hx hb dX3_findSpace_5 rfl (lv_at hl 0 rfl) ?_
  refine va_get (ci := 3) (v := .ref p0) (C := RX3) (T := TX3) (N := 8) hx hb hts hin3 hown hK hP 0 rfl rfl 0 (by decide) hfl14 (fun _ h9 => h9) rfl dX3_findSpace_6 ?_
  refine va_get (ci := 4) (v := .int ps) (C := RX4) (T := TX4) (N := 4) hx hb hts hin4 hown hK hP 1 rfl rfl 3 (by decide) hfl46 (fun _ h9 => h9) rfl dX3_findSpace_9 ?_
  refine lv_iconst (v := 2) hx hb dX3_findSpace_12 (by decide) ?_
  refine lv_icmp_ge (tgt := 17) hx hb dX3_findSpace_13 (by decide) (fun c_1 => ?_) (fun c_1 => ?_)
  · replace hF := it_p c_1 hF
    refine lv_aload_n hx hb dX3_findSpace_17 rfl (lv_at hl 0 rfl) ?_
    refine lv_iconst (v := 1) hx hb dX3_findSpace_18 (by decide) ?_
    refine va_put (ci := 3) (v := .int 1) (ty := .int) (C := RX3) (T := TX3) (N := 8) hx hb hts hin3 tyX3 tyX3_ok nmX3 hown hK hP hD hS 0 rfl rfl 7 (by decide) hfl88 (fun _ h9 => h9) rfl (by decide +kernel) rfl rfl (Nat.le_of_ble_eq_true rfl) dX3_findSpace_19 (fun H locs hP hD hS => ?_)
    have hP : va_P (gD G) vwCl (wMk G h0 p0 ax ay az s0 sa sb sc se b0 ba bb bc be t1 t2 t3 t4 1 ps X Y Z ss SA SB SC SE bs BA BB BC BD l1 l2 l3 c1 c2 c3 r1 r2 r3 f1 f2 f3) H := hP
    have hD : va_D A (wMk G h0 p0 ax ay az s0 sa sb sc se b0 ba bb bc be t1 t2 t3 t4 1 ps X Y Z ss SA SB SC SE bs BA BB BC BD l1 l2 l3 c1 c2 c3 r1 r2 r3 f1 f2 f3) := hD
    refine lv_aload_n hx hb dX3_findSpace_22 rfl (lv_at hl 0 rfl) ?_
    refine va_get (ci := 3) (v := .ref t1) (C := RX3) (T := TX3) (N := 8) hx hb hts hin3 hown hK hP 0 rfl rfl 3 (by decide) hfl33 (fun _ h9 => h9) rfl dX3_findSpace_23 ?_
    refine lv_aload_n hx hb dX3_findSpace_26 rfl (lv_at hl 0 rfl) ?_
    refine va_get (ci := 3) (v := .ref p0) (C := RX3) (T := TX3) (N := 8) hx hb hts hin3 hown hK hP 0 rfl rfl 0 (by decide) hfl14 (fun _ h9 => h9) rfl dX3_findSpace_27 ?_
    refine lv_iconst (v := 0) hx hb dX3_findSpace_30 (by decide) ?_
    refine lv_iconst (v := 1) hx hb dX3_findSpace_31 (by decide) ?_
    obtain ⟨v_2, hv_2, hF⟩ := bd_s hF
    refine rw_ve (wf := (fun (u : Int32 × Int32 × Int32) => (wStpPt G t1 p0 ax ay az 121 u.1 u.2.1 u.2.2 ps X Y Z))) (wr := [(h0, .inr (3, [.ref p0, .ref s0, .ref b0, .ref t1, .ref t2, .ref t3, .ref t4, .int 1])), (s0, .inr (1, [.ref sa, .ref sb, .ref sc, .ref se, .int ss])), (sa, .inl (gI G, 80, .inl SA)), (sb, .inl (gI G, 80, .inl SB)), (sc, .inl (gI G, 80, .inl SC)), (se, .inl (gI G, 80, .inl SE)), (b0, .inr (1, [.ref ba, .ref bb, .ref bc, .ref be, .int bs])), (ba, .inl (gI G, 3, .inl BA)), (bb, .inl (gI G, 3, .inl BB)), (bc, .inl (gI G, 3, .inl BC)), (be, .inl (gI G, 3, .inl BD)), (t2, .inr (6, [.int c1, .int c2, .int c3])), (t3, .inr (6, [.int r1, .int r2, .int r3])), (t4, .inr (6, [.int f1, .int f2, .int f3]))]) (va_runV (As := [.ref p0, .int 0, .int 1]) (rest := []) ⟨hx, hb, hml, hown, hts⟩ (kX6_lead l G t1 p0 ax ay az H.size 121 l1 l2 l3 ps X Y Z 0 1 v_2 hv_2) (cwV 3 hts gX3_findSpace_X6_lead rfl rfl rfl (by decide +kernel) ⟨Nat.le_of_ble_eq_true rfl, Nat.le_of_ble_eq_true rfl⟩) (pvW (q0 := 0) 6 hK (hP.sub (ws' := (wStpPt G t1 p0 ax ay az 121 l1 l2 l3 ps X Y Z)) [15, 1, 2, 3, 4] rfl) (hD.sub (ws' := (wStpPt G t1 p0 ax ay az 121 l1 l2 l3 ps X Y Z)) [15, 1, 2, 3, 4] (by decide) rfl) rfl rfl) rfl rfl hl.1 rfl (lv_room (Nat.le_of_ble_eq_true rfl)) dX3_findSpace_32 ⟨Nat.le_of_ble_eq_true rfl, Nat.le_of_ble_eq_true rfl⟩) hP hD hS hA [15, 1, 2, 3, 4] [0, 5, 6, 7, 8, 9, 10, 11, 12, 13, 14, 16, 17, 18] rfl rfl (by decide) (by decide) (fun H locs  hP hD hS => ?_)
    have hP : va_P (gD G) vwCl (wMk G h0 p0 ax ay az s0 sa sb sc se b0 ba bb bc be t1 t2 t3 t4 1 ps X Y Z ss SA SB SC SE bs BA BB BC BD v_2.1 v_2.2.1 v_2.2.2 c1 c2 c3 r1 r2 r3 f1 f2 f3) H := hP.sub [0, 15, 16, 17, 18, 1, 2, 3, 4, 5, 6, 7, 8, 9, 10, 14, 11, 12, 13] rfl
    have hD : va_D A (wMk G h0 p0 ax ay az s0 sa sb sc se b0 ba bb bc be t1 t2 t3 t4 1 ps X Y Z ss SA SB SC SE bs BA BB BC BD v_2.1 v_2.2.1 v_2.2.2 c1 c2 c3 r1 r2 r3 f1 f2 f3) := hD.sub [0, 15, 16, 17, 18, 1, 2, 3, 4, 5, 6, 7, 8, 9, 10, 14, 11, 12, 13] (by decide) rfl
    refine lv_iconst (v := 2) hx hb dX3_findSpace_35 (by decide) ?_
    refine lv_istore_n (lv' := [(1, .int 2), (0, .ref h0)]) hx hb dX3_findSpace_36 rfl hl (by decide) rfl (fun ls hl => ?_)
    exact hL37 FU 2 1 v_2.1 v_2.2.1 v_2.2.2 c1 c2 c3 r1 r2 r3 _ _ _ hF hP hD hS (lv_sub hl [1, 0] rfl)
  · replace hF := it_n c_1 hF
    exact W.vret hx hb hr (fun t ht hW => ⟨⟨(0, l1, l2, l3, c1, c2, c3, r1, r2, r3), rfl, so_e hF, qW_mk ht hP hK hW hD⟩, hS.F ht⟩) hS.2.2 dX3_findSpace_16
def fX3_bind (ps : Int32) (X : Nat → Int32) (Y : Nat → Int32) (Z : Nat → Int32) (bs : Int32) (BA : Nat → Int32) (BB : Nat → Int32) (BC : Nat → Int32) (BD : Nat → Int32) (p1 : Int32) (p2 : Int32) (p3 : Int32) : Option (Int32 × (Nat → Int32) × (Nat → Int32) × (Nat → Int32) × (Nat → Int32)) :=
  (if ps ≤ 0 then (some (bs, BA, BB, BC, BD)) else (gd_in 0 121 (bd (fX1_put 3 bs BA BB BC BD p1 p2 p3 (((p1 * (X (0 : Int32).toNatClampNeg)) + (p2 * (Y (0 : Int32).toNatClampNeg))) + (p3 * (Z (0 : Int32).toNatClampNeg)))) (fun v_3 => (some (v_3.1, v_3.2.1, v_3.2.2.1, v_3.2.2.2.1, v_3.2.2.2.2))))))
abbrev rX3_bind : Room := { frames := 2, cells := 0, slots := 0, locals := 50 }
set_option maxHeartbeats 40000000 in
set_option maxRecDepth 100000 in
theorem kX3_bind (l : Launch) (G : GT) (h0 p0 ax ay az s0 sa sb sc se b0 ba bb bc be t1 t2 t3 t4 : Nat) (sz : Nat) (fi : Int32) (ps : Int32) (X : Nat → Int32) (Y : Nat → Int32) (Z : Nat → Int32) (ss : Int32) (SA : Nat → Int32) (SB : Nat → Int32) (SC : Nat → Int32) (SE : Nat → Int32) (bs : Int32) (BA : Nat → Int32) (BB : Nat → Int32) (BC : Nat → Int32) (BD : Nat → Int32) (l1 : Int32) (l2 : Int32) (l3 : Int32) (c1 : Int32) (c2 : Int32) (c3 : Int32) (r1 : Int32) (r2 : Int32) (r3 : Int32) (f1 : Int32) (f2 : Int32) (f3 : Int32) (p1 : Int32) (p2 : Int32) (p3 : Int32) (res : Int32 × (Nat → Int32) × (Nat → Int32) × (Nat → Int32) × (Nat → Int32)) (hF : fX3_bind ps X Y Z bs BA BB BC BD p1 p2 p3 = some res) : Met l yX3_bind wsX3_bind rX3_bind (va_Pc [.ref h0, .int p1, .int p2, .int p3] (pW G sz (wMk G h0 p0 ax ay az s0 sa sb sc se b0 ba bb bc be t1 t2 t3 t4 fi ps X Y Z ss SA SB SC SE bs BA BB BC BD l1 l2 l3 c1 c2 c3 r1 r2 r3 f1 f2 f3))) (va_Qv (fun (u : Int32 × (Nat → Int32) × (Nat → Int32) × (Nat → Int32) × (Nat → Int32)) => u = res) (fun u t => qW G (va_A (wMk G h0 p0 ax ay az s0 sa sb sc se b0 ba bb bc be t1 t2 t3 t4 fi ps X Y Z ss SA SB SC SE bs BA BB BC BD l1 l2 l3 c1 c2 c3 r1 r2 r3 f1 f2 f3) sz) (wMk G h0 p0 ax ay az s0 sa sb sc se b0 ba bb bc be t1 t2 t3 t4 fi ps X Y Z ss SA SB SC SE u.1 u.2.1 u.2.2.1 u.2.2.2.1 u.2.2.2.2 l1 l2 l3 c1 c2 c3 r1 r2 r3 f1 f2 f3) t) (va_A (wMk G h0 p0 ax ay az s0 sa sb sc se b0 ba bb bc be t1 t2 t3 t4 fi ps X Y Z ss SA SB SC SE bs BA BB BC BD l1 l2 l3 c1 c2 c3 r1 r2 r3 f1 f2 f3) sz)) 0 0 (va_A (wMk G h0 p0 ax ay az s0 sa sb sc se b0 ba bb bc be t1 t2 t3 t4 fi ps X Y Z ss SA SB SC SE bs BA BB BC BD l1 l2 l3 c1 c2 c3 r1 r2 r3 f1 f2 f3) sz) := by
  refine Met.ofW (cc := cX3_bind) (maxL := 4) (ret := none) (by decide) rfl ?_
  intro p e s m args below meth c s₁ B hml hv
  obtain ⟨rfl, hsz, hP, hK, hD0⟩ := hv
  have hx := B.exec
  have hb := B.bytes
  have hr := B.returns
  have hts := atoms_spec (ws := wsX3_bind) B.pre
  have hown : s.vm.findClass RX3 = some m.cls := findClass_of_methodNamed B.named
  have hlocks := B.notSynchronized
  subst hsz
  have hD := hD0.self (sz := s.heap.size)
  generalize hAe : va_A (wMk G h0 p0 ax ay az s0 sa sb sc se b0 ba bb bc be t1 t2 t3 t4 fi ps X Y Z ss SA SB SC SE bs BA BB BC BD l1 l2 l3 c1 c2 c3 r1 r2 r3 f1 f2 f3) s.heap.size = A at hD ⊢
  have hA : ∀ q : Nat, s.heap.size ≤ q → A q := fun q h => by rw [← hAe]; exact Or.inr h
  have hS : va_S A s.heap s.heap [] := va_S.rf
  have hin3 : ∀ w ∈ u_ws RX3 TX3 8, w ∈ wsX3_bind := by decide +kernel
  have hfl14 := hts (.fieldLink RX3 14 "SwellBodies$Maker" "points" "LSwellBodies$Points;") (by decide +kernel)
  have hin4 : ∀ w ∈ u_ws RX4 TX4 4, w ∈ wsX3_bind := by decide +kernel
  have hfl46 := hts (.fieldLink RX3 46 "SwellBodies$Points" "size" "I") (by decide +kernel)
  have hfl27 := hts (.fieldLink RX3 27 "SwellBodies$Maker" "bonds" "LSwellBodies$Conditions;") (by decide +kernel)
  have hfl50 := hts (.fieldLink RX3 50 "SwellBodies$Points" "x" "[I") (by decide +kernel)
  have hfl54 := hts (.fieldLink RX3 54 "SwellBodies$Points" "y" "[I") (by decide +kernel)
  have hfl57 := hts (.fieldLink RX3 57 "SwellBodies$Points" "z" "[I") (by decide +kernel)
  have hl := lv_entry ([.ref h0, .int p1, .int p2, .int p3]) (n := 4) (Nat.le_of_ble_eq_true rfl)
  rw [lg_entry_eq]
  generalize (lg_sl ([.ref h0, .int p1, .int p2, .int p3]) ++ List.replicate (4 - (lg_sl ([.ref h0, .int p1, .int p2, .int p3])).length) Slot.unset).toArray = ls at hl ⊢
  have hl : lv_has ls 4 [(0, .ref h0), (1, .int p1), (2, .int p2), (3, .int p3)] := hl
  unfold fX3_bind at hF
  refine lv_aload_n hx hb dX3_bind_0 rfl (lv_at hl 0 rfl) ?_
  refine va_get (ci := 3) (v := .ref p0) (C := RX3) (T := TX3) (N := 8) hx hb hts hin3 hown hK hP 0 rfl rfl 0 (by decide) hfl14 (fun _ h9 => h9) rfl dX3_bind_1 ?_
  refine va_get (ci := 4) (v := .int ps) (C := RX4) (T := TX4) (N := 4) hx hb hts hin4 hown hK hP 1 rfl rfl 3 (by decide) hfl46 (fun _ h9 => h9) rfl dX3_bind_4 ?_
  refine lv_if_le (tgt := 55) hx hb dX3_bind_7 (by decide) (fun c_1 => ?_) (fun c_1 => ?_)
  · replace hF := it_p c_1 hF
    exact W.vret hx hb hr (fun t ht hW => ⟨⟨(bs, BA, BB, BC, BD), rfl, so_e hF, qW_mk ht hP hK hW hD⟩, hS.F ht⟩) hS.2.2 dX3_bind_55
  · replace hF := it_n c_1 hF
    refine lv_aload_n hx hb dX3_bind_10 rfl (lv_at hl 0 rfl) ?_
    refine va_get (ci := 3) (v := .ref b0) (C := RX3) (T := TX3) (N := 8) hx hb hts hin3 hown hK hP 0 rfl rfl 2 (by decide) hfl27 (fun _ h9 => h9) rfl dX3_bind_11 ?_
    refine lv_iload_n hx hb dX3_bind_14 rfl (lv_at hl 1 rfl) ?_
    refine lv_iload_n hx hb dX3_bind_15 rfl (lv_at hl 2 rfl) ?_
    refine lv_iload_n hx hb dX3_bind_16 rfl (lv_at hl 3 rfl) ?_
    refine lv_iload_n hx hb dX3_bind_17 rfl (lv_at hl 1 rfl) ?_
    refine lv_aload_n hx hb dX3_bind_18 rfl (lv_at hl 0 rfl) ?_
    refine va_get (ci := 3) (v := .ref p0) (C := RX3) (T := TX3) (N := 8) hx hb hts hin3 hown hK hP 0 rfl rfl 0 (by decide) hfl14 (fun _ h9 => h9) rfl dX3_bind_19 ?_
    refine va_get (ci := 4) (v := .ref ax) (C := RX4) (T := TX4) (N := 4) hx hb hts hin4 hown hK hP 1 rfl rfl 0 (by decide) hfl50 (fun _ h9 => h9) rfl dX3_bind_22 ?_
    refine lv_iconst (v := 0) hx hb dX3_bind_25 (by decide) ?_
    obtain ⟨hi_2, hF⟩ := gd_in_s hF
    refine va_iald hx hb hK hP 2 0 rfl rfl hi_2 dX3_bind_26 ?_
    refine lv_imul hx hb dX3_bind_27 ?_
    refine lv_iload_n hx hb dX3_bind_28 rfl (lv_at hl 2 rfl) ?_
    refine lv_aload_n hx hb dX3_bind_29 rfl (lv_at hl 0 rfl) ?_
    refine va_get (ci := 3) (v := .ref p0) (C := RX3) (T := TX3) (N := 8) hx hb hts hin3 hown hK hP 0 rfl rfl 0 (by decide) hfl14 (fun _ h9 => h9) rfl dX3_bind_30 ?_
    refine va_get (ci := 4) (v := .ref ay) (C := RX4) (T := TX4) (N := 4) hx hb hts hin4 hown hK hP 1 rfl rfl 1 (by decide) hfl54 (fun _ h9 => h9) rfl dX3_bind_33 ?_
    refine lv_iconst (v := 0) hx hb dX3_bind_36 (by decide) ?_
    refine va_iald hx hb hK hP 3 0 rfl rfl hi_2 dX3_bind_37 ?_
    refine lv_imul hx hb dX3_bind_38 ?_
    refine lv_iadd hx hb dX3_bind_39 ?_
    refine lv_iload_n hx hb dX3_bind_40 rfl (lv_at hl 3 rfl) ?_
    refine lv_aload_n hx hb dX3_bind_41 rfl (lv_at hl 0 rfl) ?_
    refine va_get (ci := 3) (v := .ref p0) (C := RX3) (T := TX3) (N := 8) hx hb hts hin3 hown hK hP 0 rfl rfl 0 (by decide) hfl14 (fun _ h9 => h9) rfl dX3_bind_42 ?_
    refine va_get (ci := 4) (v := .ref az) (C := RX4) (T := TX4) (N := 4) hx hb hts hin4 hown hK hP 1 rfl rfl 2 (by decide) hfl57 (fun _ h9 => h9) rfl dX3_bind_45 ?_
    refine lv_iconst (v := 0) hx hb dX3_bind_48 (by decide) ?_
    refine va_iald hx hb hK hP 4 0 rfl rfl hi_2 dX3_bind_49 ?_
    refine lv_imul hx hb dX3_bind_50 ?_
    refine lv_iadd hx hb dX3_bind_51 ?_
    obtain ⟨v_3, hv_3, hF⟩ := bd_s hF
    refine rw_ve (wf := (fun (u : Int32 × (Nat → Int32) × (Nat → Int32) × (Nat → Int32) × (Nat → Int32)) => (wCnd G b0 ba bb bc be 3 u.1 u.2.1 u.2.2.1 u.2.2.2.1 u.2.2.2.2))) (wr := [(h0, .inr (3, [.ref p0, .ref s0, .ref b0, .ref t1, .ref t2, .ref t3, .ref t4, .int fi])), (p0, .inr (4, [.ref ax, .ref ay, .ref az, .int ps])), (ax, .inl (gI G, 121, .inl X)), (ay, .inl (gI G, 121, .inl Y)), (az, .inl (gI G, 121, .inl Z)), (s0, .inr (1, [.ref sa, .ref sb, .ref sc, .ref se, .int ss])), (sa, .inl (gI G, 80, .inl SA)), (sb, .inl (gI G, 80, .inl SB)), (sc, .inl (gI G, 80, .inl SC)), (se, .inl (gI G, 80, .inl SE)), (t1, .inr (6, [.int l1, .int l2, .int l3])), (t2, .inr (6, [.int c1, .int c2, .int c3])), (t3, .inr (6, [.int r1, .int r2, .int r3])), (t4, .inr (6, [.int f1, .int f2, .int f3]))]) (va_runV (As := [.int p1, .int p2, .int p3, .int (((p1 * (X (0 : Int32).toNatClampNeg)) + (p2 * (Y (0 : Int32).toNatClampNeg))) + (p3 * (Z (0 : Int32).toNatClampNeg)))]) (rest := []) ⟨hx, hb, hml, hown, hts⟩ (kX1_put l G b0 ba bb bc be s.heap.size 3 bs BA BB BC BD p1 p2 p3 (((p1 * (X (0 : Int32).toNatClampNeg)) + (p2 * (Y (0 : Int32).toNatClampNeg))) + (p3 * (Z (0 : Int32).toNatClampNeg))) v_3 hv_3) (cwV 4 hts gX3_bind_X1_put rfl rfl rfl (by decide +kernel) ⟨Nat.le_of_ble_eq_true rfl, Nat.le_of_ble_eq_true rfl⟩) (pvW (q0 := 0) 1 hK (hP.sub (ws' := (wCnd G b0 ba bb bc be 3 bs BA BB BC BD)) [10, 11, 12, 13, 14] rfl) (hD.sub (ws' := (wCnd G b0 ba bb bc be 3 bs BA BB BC BD)) [10, 11, 12, 13, 14] (by decide) rfl) rfl rfl) rfl rfl hl.1 rfl (lv_room (Nat.le_of_ble_eq_true rfl)) dX3_bind_52 ⟨Nat.le_of_ble_eq_true rfl, Nat.le_of_ble_eq_true rfl⟩) hP hD hS hA [10, 11, 12, 13, 14] [0, 1, 2, 3, 4, 5, 6, 7, 8, 9, 15, 16, 17, 18] rfl rfl (by decide) (by decide) (fun H locs  hP hD hS => ?_)
    have hP : va_P (gD G) vwCl (wMk G h0 p0 ax ay az s0 sa sb sc se b0 ba bb bc be t1 t2 t3 t4 fi ps X Y Z ss SA SB SC SE v_3.1 v_3.2.1 v_3.2.2.1 v_3.2.2.2.1 v_3.2.2.2.2 l1 l2 l3 c1 c2 c3 r1 r2 r3 f1 f2 f3) H := hP.sub [0, 1, 2, 3, 4, 5, 6, 7, 8, 9, 14, 15, 16, 17, 18, 10, 11, 12, 13] rfl
    have hD : va_D A (wMk G h0 p0 ax ay az s0 sa sb sc se b0 ba bb bc be t1 t2 t3 t4 fi ps X Y Z ss SA SB SC SE v_3.1 v_3.2.1 v_3.2.2.1 v_3.2.2.2.1 v_3.2.2.2.2 l1 l2 l3 c1 c2 c3 r1 r2 r3 f1 f2 f3) := hD.sub [0, 1, 2, 3, 4, 5, 6, 7, 8, 9, 14, 15, 16, 17, 18, 10, 11, 12, 13] (by decide) rfl
    exact W.vret hx hb hr (fun t ht hW => ⟨⟨(v_3.1, v_3.2.1, v_3.2.2.1, v_3.2.2.2.1, v_3.2.2.2.2), rfl, so_e hF, qW_mk ht hP hK hW hD⟩, hS.F ht⟩) hS.2.2 dX3_bind_55
def JX3_bindSpace_191 (fi : Int32) (ps : Int32) (X : Nat → Int32) (Y : Nat → Int32) (Z : Nat → Int32)  (mbs : Int32) (mBA : Nat → Int32) (mBB : Nat → Int32) (mBC : Nat → Int32) (mBD : Nat → Int32) (ml1 : Int32) (ml2 : Int32) (ml3 : Int32) (mr1 : Int32) (mr2 : Int32) (mr3 : Int32) : Option (Int32 × (Nat → Int32) × (Nat → Int32) × (Nat → Int32) × (Nat → Int32) × Int32 × Int32 × Int32 × Int32 × Int32 × Int32) :=
  (bd (fX3_bind ps X Y Z mbs mBA mBB mBC mBD mr1 mr2 mr3) (fun v_7 => (some (v_7.1, v_7.2.1, v_7.2.2.1, v_7.2.2.2.1, v_7.2.2.2.2, ml1, ml2, ml3, mr1, mr2, mr3))))
def JX3_bindSpace_179 (fi : Int32) (ps : Int32) (X : Nat → Int32) (Y : Nat → Int32) (Z : Nat → Int32)  (t0 : Int32) (mbs : Int32) (mBA : Nat → Int32) (mBB : Nat → Int32) (mBC : Nat → Int32) (mBD : Nat → Int32) (ml1 : Int32) (ml2 : Int32) (ml3 : Int32) (mr1 : Int32) (mr2 : Int32) (mr3 : Int32) : Option (Int32 × (Nat → Int32) × (Nat → Int32) × (Nat → Int32) × (Nat → Int32) × Int32 × Int32 × Int32 × Int32 × Int32 × Int32) :=
  (if t0 = 0 then (JX3_bindSpace_191 fi ps X Y Z mbs mBA mBB mBC mBD ml1 ml2 ml3 mr1 mr2 mr3) else (bd (fX6_flip mr1 mr2 mr3) (fun v_8 => (JX3_bindSpace_191 fi ps X Y Z mbs mBA mBB mBC mBD ml1 ml2 ml3 v_8.1 v_8.2.1 v_8.2.2))))
def JX3_bindSpace_174 (fi : Int32) (ps : Int32) (X : Nat → Int32) (Y : Nat → Int32) (Z : Nat → Int32)  (mbs : Int32) (mBA : Nat → Int32) (mBB : Nat → Int32) (mBC : Nat → Int32) (mBD : Nat → Int32) (ml1 : Int32) (ml2 : Int32) (ml3 : Int32) (mr1 : Int32) (mr2 : Int32) (mr3 : Int32) : Option (Int32 × (Nat → Int32) × (Nat → Int32) × (Nat → Int32) × (Nat → Int32) × Int32 × Int32 × Int32 × Int32 × Int32 × Int32) :=
  (JX3_bindSpace_179 fi ps X Y Z 1 mbs mBA mBB mBC mBD ml1 ml2 ml3 mr1 mr2 mr3)
def JX3_bindSpace_178 (fi : Int32) (ps : Int32) (X : Nat → Int32) (Y : Nat → Int32) (Z : Nat → Int32)  (mbs : Int32) (mBA : Nat → Int32) (mBB : Nat → Int32) (mBC : Nat → Int32) (mBD : Nat → Int32) (ml1 : Int32) (ml2 : Int32) (ml3 : Int32) (mr1 : Int32) (mr2 : Int32) (mr3 : Int32) : Option (Int32 × (Nat → Int32) × (Nat → Int32) × (Nat → Int32) × (Nat → Int32) × Int32 × Int32 × Int32 × Int32 × Int32 × Int32) :=
  (JX3_bindSpace_179 fi ps X Y Z 0 mbs mBA mBB mBC mBD ml1 ml2 ml3 mr1 mr2 mr3)
def fX3_bindSpace (fi : Int32) (ps : Int32) (X : Nat → Int32) (Y : Nat → Int32) (Z : Nat → Int32) (bs : Int32) (BA : Nat → Int32) (BB : Nat → Int32) (BC : Nat → Int32) (BD : Nat → Int32) (l1 : Int32) (l2 : Int32) (l3 : Int32) (r1 : Int32) (r2 : Int32) (r3 : Int32) : Option (Int32 × (Nat → Int32) × (Nat → Int32) × (Nat → Int32) × (Nat → Int32) × Int32 × Int32 × Int32 × Int32 × Int32 × Int32) :=
  (if fi = 0 then (bd (fX3_bind ps X Y Z bs BA BB BC BD 1 0 0) (fun v_17 => (bd (fX3_bind ps X Y Z v_17.1 v_17.2.1 v_17.2.2.1 v_17.2.2.2.1 v_17.2.2.2.2 0 1 0) (fun v_18 => (bd (fX3_bind ps X Y Z v_18.1 v_18.2.1 v_18.2.2.1 v_18.2.2.2.1 v_18.2.2.2.2 0 0 1) (fun v_19 => (some (v_19.1, v_19.2.1, v_19.2.2.1, v_19.2.2.2.1, v_19.2.2.2.2, l1, l2, l3, r1, r2, r3)))))))) else (if fi = 1 then (bd (fX6_shorten l1 l2 l3) (fun v_13 => (bd (fX3_bind ps X Y Z bs BA BB BC BD 0 v_13.2.2 (-v_13.2.1)) (fun v_14 => (bd (fX3_bind ps X Y Z v_14.1 v_14.2.1 v_14.2.2.1 v_14.2.2.2.1 v_14.2.2.2.2 (-v_13.2.2) 0 v_13.1) (fun v_15 => (bd (fX3_bind ps X Y Z v_15.1 v_15.2.1 v_15.2.2.1 v_15.2.2.2.1 v_15.2.2.2.2 v_13.2.1 (-v_13.1) 0) (fun v_16 => (some (v_16.1, v_16.2.1, v_16.2.2.1, v_16.2.2.2.1, v_16.2.2.2.2, v_13.1, v_13.2.1, v_13.2.2, r1, r2, r3)))))))))) else (if fi = 2 then (bd (fX6_shorten r1 r2 r3) (fun v_4 => (if v_4.1 < 0 then (JX3_bindSpace_174 fi ps X Y Z bs BA BB BC BD l1 l2 l3 v_4.1 v_4.2.1 v_4.2.2) else (if v_4.1 = 0 then (if v_4.2.1 < 0 then (JX3_bindSpace_174 fi ps X Y Z bs BA BB BC BD l1 l2 l3 v_4.1 v_4.2.1 v_4.2.2) else (if v_4.2.1 = 0 then (if 0 ≤ v_4.2.2 then (JX3_bindSpace_178 fi ps X Y Z bs BA BB BC BD l1 l2 l3 v_4.1 v_4.2.1 v_4.2.2) else (JX3_bindSpace_174 fi ps X Y Z bs BA BB BC BD l1 l2 l3 v_4.1 v_4.2.1 v_4.2.2)) else (JX3_bindSpace_178 fi ps X Y Z bs BA BB BC BD l1 l2 l3 v_4.1 v_4.2.1 v_4.2.2))) else (JX3_bindSpace_178 fi ps X Y Z bs BA BB BC BD l1 l2 l3 v_4.1 v_4.2.1 v_4.2.2))))) else (some (bs, BA, BB, BC, BD, l1, l2, l3, r1, r2, r3)))))
abbrev rX3_bindSpace : Room := { frames := 3, cells := 0, slots := 0, locals := 73 }
set_option maxHeartbeats 40000000 in
set_option maxRecDepth 100000 in
theorem kX3_bindSpace (l : Launch) (G : GT) (h0 p0 ax ay az s0 sa sb sc se b0 ba bb bc be t1 t2 t3 t4 : Nat) (sz : Nat) (fi : Int32) (ps : Int32) (X : Nat → Int32) (Y : Nat → Int32) (Z : Nat → Int32) (ss : Int32) (SA : Nat → Int32) (SB : Nat → Int32) (SC : Nat → Int32) (SE : Nat → Int32) (bs : Int32) (BA : Nat → Int32) (BB : Nat → Int32) (BC : Nat → Int32) (BD : Nat → Int32) (l1 : Int32) (l2 : Int32) (l3 : Int32) (c1 : Int32) (c2 : Int32) (c3 : Int32) (r1 : Int32) (r2 : Int32) (r3 : Int32) (f1 : Int32) (f2 : Int32) (f3 : Int32) (res : Int32 × (Nat → Int32) × (Nat → Int32) × (Nat → Int32) × (Nat → Int32) × Int32 × Int32 × Int32 × Int32 × Int32 × Int32) (hF : fX3_bindSpace fi ps X Y Z bs BA BB BC BD l1 l2 l3 r1 r2 r3 = some res) : Met l yX3_bindSpace wsX3_bindSpace rX3_bindSpace (va_Pc [.ref h0] (pW G sz (wMk G h0 p0 ax ay az s0 sa sb sc se b0 ba bb bc be t1 t2 t3 t4 fi ps X Y Z ss SA SB SC SE bs BA BB BC BD l1 l2 l3 c1 c2 c3 r1 r2 r3 f1 f2 f3))) (va_Qv (fun (u : Int32 × (Nat → Int32) × (Nat → Int32) × (Nat → Int32) × (Nat → Int32) × Int32 × Int32 × Int32 × Int32 × Int32 × Int32) => u = res) (fun u t => qW G (va_A (wMk G h0 p0 ax ay az s0 sa sb sc se b0 ba bb bc be t1 t2 t3 t4 fi ps X Y Z ss SA SB SC SE bs BA BB BC BD l1 l2 l3 c1 c2 c3 r1 r2 r3 f1 f2 f3) sz) (wMk G h0 p0 ax ay az s0 sa sb sc se b0 ba bb bc be t1 t2 t3 t4 fi ps X Y Z ss SA SB SC SE u.1 u.2.1 u.2.2.1 u.2.2.2.1 u.2.2.2.2.1 u.2.2.2.2.2.1 u.2.2.2.2.2.2.1 u.2.2.2.2.2.2.2.1 c1 c2 c3 u.2.2.2.2.2.2.2.2.1 u.2.2.2.2.2.2.2.2.2.1 u.2.2.2.2.2.2.2.2.2.2 f1 f2 f3) t) (va_A (wMk G h0 p0 ax ay az s0 sa sb sc se b0 ba bb bc be t1 t2 t3 t4 fi ps X Y Z ss SA SB SC SE bs BA BB BC BD l1 l2 l3 c1 c2 c3 r1 r2 r3 f1 f2 f3) sz)) 0 0 (va_A (wMk G h0 p0 ax ay az s0 sa sb sc se b0 ba bb bc be t1 t2 t3 t4 fi ps X Y Z ss SA SB SC SE bs BA BB BC BD l1 l2 l3 c1 c2 c3 r1 r2 r3 f1 f2 f3) sz) := by
  refine Met.ofW (cc := cX3_bindSpace) (maxL := 2) (ret := none) (by decide) rfl ?_
  intro p e s m args below meth c s₁ B hml hv
  obtain ⟨rfl, hsz, hP, hK, hD0⟩ := hv
  have hx := B.exec
  have hb := B.bytes
  have hr := B.returns
  have hts := atoms_spec (ws := wsX3_bindSpace) B.pre
  have hown : s.vm.findClass RX3 = some m.cls := findClass_of_methodNamed B.named
  have hlocks := B.notSynchronized
  subst hsz
  have hD := hD0.self (sz := s.heap.size)
  generalize hAe : va_A (wMk G h0 p0 ax ay az s0 sa sb sc se b0 ba bb bc be t1 t2 t3 t4 fi ps X Y Z ss SA SB SC SE bs BA BB BC BD l1 l2 l3 c1 c2 c3 r1 r2 r3 f1 f2 f3) s.heap.size = A at hD ⊢
  have hA : ∀ q : Nat, s.heap.size ≤ q → A q := fun q h => by rw [← hAe]; exact Or.inr h
  have hS : va_S A s.heap s.heap [] := va_S.rf
  have hin3 : ∀ w ∈ u_ws RX3 TX3 8, w ∈ wsX3_bindSpace := by decide +kernel
  have hfl88 := hts (.fieldLink RX3 88 "SwellBodies$Maker" "fills" "I") (by decide +kernel)
  have hfl40 := hts (.fieldLink RX3 40 "SwellBodies$Maker" "square" "LSwellBodies$Step;") (by decide +kernel)
  have hin6 : ∀ w ∈ u_ws RX6 TX6 3, w ∈ wsX3_bindSpace := by decide +kernel
  have hfl127 := hts (.fieldLink RX3 127 "SwellBodies$Step" "x" "I") (by decide +kernel)
  have hfl125 := hts (.fieldLink RX3 125 "SwellBodies$Step" "y" "I") (by decide +kernel)
  have hfl123 := hts (.fieldLink RX3 123 "SwellBodies$Step" "z" "I") (by decide +kernel)
  have hfl33 := hts (.fieldLink RX3 33 "SwellBodies$Maker" "along" "LSwellBodies$Step;") (by decide +kernel)
  have hl := lv_entry ([.ref h0]) (n := 2) (Nat.le_of_ble_eq_true rfl)
  rw [lg_entry_eq]
  generalize (lg_sl ([.ref h0]) ++ List.replicate (2 - (lg_sl ([.ref h0])).length) Slot.unset).toArray = ls at hl ⊢
  have hl : lv_has ls 2 [(0, .ref h0)] := hl
  have hJ191 : ∀ (mbs : Int32) (mBA : Nat → Int32) (mBB : Nat → Int32) (mBC : Nat → Int32) (mBD : Nat → Int32) (ml1 : Int32) (ml2 : Int32) (ml3 : Int32) (mr1 : Int32) (mr2 : Int32) (mr3 : Int32) (H : Heap) (locs : List Loc) (ls : Array Slot), JX3_bindSpace_191 fi ps X Y Z mbs mBA mBB mBC mBD ml1 ml2 ml3 mr1 mr2 mr3 = some res → va_P (gD G) vwCl (wMk G h0 p0 ax ay az s0 sa sb sc se b0 ba bb bc be t1 t2 t3 t4 fi ps X Y Z ss SA SB SC SE mbs mBA mBB mBC mBD ml1 ml2 ml3 c1 c2 c3 mr1 mr2 mr3 f1 f2 f3) H → va_D A (wMk G h0 p0 ax ay az s0 sa sb sc se b0 ba bb bc be t1 t2 t3 t4 fi ps X Y Z ss SA SB SC SE mbs mBA mBB mBC mBD ml1 ml2 ml3 c1 c2 c3 mr1 mr2 mr3 f1 f2 f3) → va_S A s.heap H locs → lv_has ls 2 [(0, .ref h0)] → W p l e (headSpec wsX3_bindSpace rX3_bindSpace).room s m ([.ref h0] : List Value).toArray below meth c H locs 0 0 (MQ below (va_Qv (fun (u : Int32 × (Nat → Int32) × (Nat → Int32) × (Nat → Int32) × (Nat → Int32) × Int32 × Int32 × Int32 × Int32 × Int32 × Int32) => u = res) (fun u t => qW G A (wMk G h0 p0 ax ay az s0 sa sb sc se b0 ba bb bc be t1 t2 t3 t4 fi ps X Y Z ss SA SB SC SE u.1 u.2.1 u.2.2.1 u.2.2.2.1 u.2.2.2.2.1 u.2.2.2.2.2.1 u.2.2.2.2.2.2.1 u.2.2.2.2.2.2.2.1 c1 c2 c3 u.2.2.2.2.2.2.2.2.1 u.2.2.2.2.2.2.2.2.2.1 u.2.2.2.2.2.2.2.2.2.2 f1 f2 f3) t) A) ([.ref h0] : List Value).toArray s 0 0 A) (F0 m 191 ls []) := by
    intro mbs mBA mBB mBC mBD ml1 ml2 ml3 mr1 mr2 mr3 H locs ls hF hP hD hS hl
    unfold JX3_bindSpace_191 at hF
    refine lv_aload_n hx hb dX3_bindSpace_191 rfl (lv_at hl 0 rfl) ?_
    refine lv_aload_n hx hb dX3_bindSpace_192 rfl (lv_at hl 0 rfl) ?_
    refine va_get (ci := 3) (v := .ref t3) (C := RX3) (T := TX3) (N := 8) hx hb hts hin3 hown hK hP 0 rfl rfl 5 (by decide) hfl40 (fun _ h9 => h9) rfl dX3_bindSpace_193 ?_
    refine va_get (ci := 6) (v := .int mr1) (C := RX6) (T := TX6) (N := 3) hx hb hts hin6 hown hK hP 17 rfl rfl 0 (by decide) hfl127 (fun _ h9 => h9) rfl dX3_bindSpace_196 ?_
    refine lv_aload_n hx hb dX3_bindSpace_199 rfl (lv_at hl 0 rfl) ?_
    refine va_get (ci := 3) (v := .ref t3) (C := RX3) (T := TX3) (N := 8) hx hb hts hin3 hown hK hP 0 rfl rfl 5 (by decide) hfl40 (fun _ h9 => h9) rfl dX3_bindSpace_200 ?_
    refine va_get (ci := 6) (v := .int mr2) (C := RX6) (T := TX6) (N := 3) hx hb hts hin6 hown hK hP 17 rfl rfl 1 (by decide) hfl125 (fun _ h9 => h9) rfl dX3_bindSpace_203 ?_
    refine lv_aload_n hx hb dX3_bindSpace_206 rfl (lv_at hl 0 rfl) ?_
    refine va_get (ci := 3) (v := .ref t3) (C := RX3) (T := TX3) (N := 8) hx hb hts hin3 hown hK hP 0 rfl rfl 5 (by decide) hfl40 (fun _ h9 => h9) rfl dX3_bindSpace_207 ?_
    refine va_get (ci := 6) (v := .int mr3) (C := RX6) (T := TX6) (N := 3) hx hb hts hin6 hown hK hP 17 rfl rfl 2 (by decide) hfl123 (fun _ h9 => h9) rfl dX3_bindSpace_210 ?_
    obtain ⟨v_7, hv_7, hF⟩ := bd_s hF
    refine rw_ve (wf := (fun (u : Int32 × (Nat → Int32) × (Nat → Int32) × (Nat → Int32) × (Nat → Int32)) => (wMk G h0 p0 ax ay az s0 sa sb sc se b0 ba bb bc be t1 t2 t3 t4 fi ps X Y Z ss SA SB SC SE u.1 u.2.1 u.2.2.1 u.2.2.2.1 u.2.2.2.2 ml1 ml2 ml3 c1 c2 c3 mr1 mr2 mr3 f1 f2 f3))) (wr := []) (va_runV (As := [.int mr1, .int mr2, .int mr3]) (rest := []) ⟨hx, hb, hml, hown, hts⟩ (kX3_bind l G h0 p0 ax ay az s0 sa sb sc se b0 ba bb bc be t1 t2 t3 t4 H.size fi ps X Y Z ss SA SB SC SE mbs mBA mBB mBC mBD ml1 ml2 ml3 c1 c2 c3 mr1 mr2 mr3 f1 f2 f3 mr1 mr2 mr3 v_7 hv_7) (cwV 3 hts gX3_bindSpace_X3_bind rfl rfl rfl (by decide +kernel) ⟨Nat.le_of_ble_eq_true rfl, Nat.le_of_ble_eq_true rfl⟩) (pvW (q0 := 0) 3 hK (hP.sub (ws' := (wMk G h0 p0 ax ay az s0 sa sb sc se b0 ba bb bc be t1 t2 t3 t4 fi ps X Y Z ss SA SB SC SE mbs mBA mBB mBC mBD ml1 ml2 ml3 c1 c2 c3 mr1 mr2 mr3 f1 f2 f3)) [0, 1, 2, 3, 4, 5, 6, 7, 8, 9, 10, 11, 12, 13, 14, 15, 16, 17, 18] rfl) (hD.sub (ws' := (wMk G h0 p0 ax ay az s0 sa sb sc se b0 ba bb bc be t1 t2 t3 t4 fi ps X Y Z ss SA SB SC SE mbs mBA mBB mBC mBD ml1 ml2 ml3 c1 c2 c3 mr1 mr2 mr3 f1 f2 f3)) [0, 1, 2, 3, 4, 5, 6, 7, 8, 9, 10, 11, 12, 13, 14, 15, 16, 17, 18] (by decide) rfl) rfl rfl) rfl rfl hl.1 rfl (lv_room (Nat.le_of_ble_eq_true rfl)) dX3_bindSpace_213 ⟨Nat.le_of_ble_eq_true rfl, Nat.le_of_ble_eq_true rfl⟩) hP hD hS hA [0, 1, 2, 3, 4, 5, 6, 7, 8, 9, 10, 11, 12, 13, 14, 15, 16, 17, 18] [] rfl rfl (by decide) (by decide) (fun H locs  hP hD hS => ?_)
    have hP : va_P (gD G) vwCl (wMk G h0 p0 ax ay az s0 sa sb sc se b0 ba bb bc be t1 t2 t3 t4 fi ps X Y Z ss SA SB SC SE v_7.1 v_7.2.1 v_7.2.2.1 v_7.2.2.2.1 v_7.2.2.2.2 ml1 ml2 ml3 c1 c2 c3 mr1 mr2 mr3 f1 f2 f3) H := hP.sub [0, 1, 2, 3, 4, 5, 6, 7, 8, 9, 10, 11, 12, 13, 14, 15, 16, 17, 18] rfl
    have hD : va_D A (wMk G h0 p0 ax ay az s0 sa sb sc se b0 ba bb bc be t1 t2 t3 t4 fi ps X Y Z ss SA SB SC SE v_7.1 v_7.2.1 v_7.2.2.1 v_7.2.2.2.1 v_7.2.2.2.2 ml1 ml2 ml3 c1 c2 c3 mr1 mr2 mr3 f1 f2 f3) := hD.sub [0, 1, 2, 3, 4, 5, 6, 7, 8, 9, 10, 11, 12, 13, 14, 15, 16, 17, 18] (by decide) rfl
    exact W.vret hx hb hr (fun t ht hW => ⟨⟨(v_7.1, v_7.2.1, v_7.2.2.1, v_7.2.2.2.1, v_7.2.2.2.2, ml1, ml2, ml3, mr1, mr2, mr3), rfl, so_e hF, qW_mk ht hP hK hW hD⟩, hS.F ht⟩) hS.2.2 dX3_bindSpace_216
  have hJ179 : ∀ (t0 : Int32) (mbs : Int32) (mBA : Nat → Int32) (mBB : Nat → Int32) (mBC : Nat → Int32) (mBD : Nat → Int32) (ml1 : Int32) (ml2 : Int32) (ml3 : Int32) (mr1 : Int32) (mr2 : Int32) (mr3 : Int32) (H : Heap) (locs : List Loc) (ls : Array Slot), JX3_bindSpace_179 fi ps X Y Z t0 mbs mBA mBB mBC mBD ml1 ml2 ml3 mr1 mr2 mr3 = some res → va_P (gD G) vwCl (wMk G h0 p0 ax ay az s0 sa sb sc se b0 ba bb bc be t1 t2 t3 t4 fi ps X Y Z ss SA SB SC SE mbs mBA mBB mBC mBD ml1 ml2 ml3 c1 c2 c3 mr1 mr2 mr3 f1 f2 f3) H → va_D A (wMk G h0 p0 ax ay az s0 sa sb sc se b0 ba bb bc be t1 t2 t3 t4 fi ps X Y Z ss SA SB SC SE mbs mBA mBB mBC mBD ml1 ml2 ml3 c1 c2 c3 mr1 mr2 mr3 f1 f2 f3) → va_S A s.heap H locs → lv_has ls 2 [(0, .ref h0)] → W p l e (headSpec wsX3_bindSpace rX3_bindSpace).room s m ([.ref h0] : List Value).toArray below meth c H locs 0 0 (MQ below (va_Qv (fun (u : Int32 × (Nat → Int32) × (Nat → Int32) × (Nat → Int32) × (Nat → Int32) × Int32 × Int32 × Int32 × Int32 × Int32 × Int32) => u = res) (fun u t => qW G A (wMk G h0 p0 ax ay az s0 sa sb sc se b0 ba bb bc be t1 t2 t3 t4 fi ps X Y Z ss SA SB SC SE u.1 u.2.1 u.2.2.1 u.2.2.2.1 u.2.2.2.2.1 u.2.2.2.2.2.1 u.2.2.2.2.2.2.1 u.2.2.2.2.2.2.2.1 c1 c2 c3 u.2.2.2.2.2.2.2.2.1 u.2.2.2.2.2.2.2.2.2.1 u.2.2.2.2.2.2.2.2.2.2 f1 f2 f3) t) A) ([.ref h0] : List Value).toArray s 0 0 A) (F0 m 179 ls [.int t0]) := by
    intro t0 mbs mBA mBB mBC mBD ml1 ml2 ml3 mr1 mr2 mr3 H locs ls hF hP hD hS hl
    unfold JX3_bindSpace_179 at hF
    refine lv_istore_n (lv' := [(1, .int t0), (0, .ref h0)]) hx hb dX3_bindSpace_179 rfl hl (by decide) rfl (fun ls hl => ?_)
    refine lv_iload_n hx hb dX3_bindSpace_180 rfl (lv_at hl 0 rfl) ?_
    refine lv_if_eq (tgt := 191) hx hb dX3_bindSpace_181 (by decide) (fun c_6 => ?_) (fun c_6 => ?_)
    · replace hF := it_p c_6 hF
      exact hJ191 mbs mBA mBB mBC mBD ml1 ml2 ml3 mr1 mr2 mr3 _ _ _ hF hP hD hS (lv_sub hl [1] rfl)
    · replace hF := it_n c_6 hF
      refine lv_aload_n hx hb dX3_bindSpace_184 rfl (lv_at hl 1 rfl) ?_
      refine va_get (ci := 3) (v := .ref t3) (C := RX3) (T := TX3) (N := 8) hx hb hts hin3 hown hK hP 0 rfl rfl 5 (by decide) hfl40 (fun _ h9 => h9) rfl dX3_bindSpace_185 ?_
      obtain ⟨v_8, hv_8, hF⟩ := bd_s hF
      refine rw_ve (wf := (fun (u : Int32 × Int32 × Int32) => (wStp G t3 u.1 u.2.1 u.2.2))) (wr := [(h0, .inr (3, [.ref p0, .ref s0, .ref b0, .ref t1, .ref t2, .ref t3, .ref t4, .int fi])), (p0, .inr (4, [.ref ax, .ref ay, .ref az, .int ps])), (ax, .inl (gI G, 121, .inl X)), (ay, .inl (gI G, 121, .inl Y)), (az, .inl (gI G, 121, .inl Z)), (s0, .inr (1, [.ref sa, .ref sb, .ref sc, .ref se, .int ss])), (sa, .inl (gI G, 80, .inl SA)), (sb, .inl (gI G, 80, .inl SB)), (sc, .inl (gI G, 80, .inl SC)), (se, .inl (gI G, 80, .inl SE)), (b0, .inr (1, [.ref ba, .ref bb, .ref bc, .ref be, .int mbs])), (ba, .inl (gI G, 3, .inl mBA)), (bb, .inl (gI G, 3, .inl mBB)), (bc, .inl (gI G, 3, .inl mBC)), (be, .inl (gI G, 3, .inl mBD)), (t1, .inr (6, [.int ml1, .int ml2, .int ml3])), (t2, .inr (6, [.int c1, .int c2, .int c3])), (t4, .inr (6, [.int f1, .int f2, .int f3]))]) (va_runV (As := []) (rest := []) ⟨hx, hb, hml, hown, hts⟩ (kX6_flip l G t3 H.size mr1 mr2 mr3 v_8 hv_8) (cwV 0 hts gX3_bindSpace_X6_flip rfl rfl rfl (by decide +kernel) ⟨Nat.le_of_ble_eq_true rfl, Nat.le_of_ble_eq_true rfl⟩) (pvW (q0 := 0) 6 hK (hP.sub (ws' := (wStp G t3 mr1 mr2 mr3)) [17] rfl) (hD.sub (ws' := (wStp G t3 mr1 mr2 mr3)) [17] (by decide) rfl) rfl rfl) rfl rfl hl.1 rfl (lv_room (Nat.le_of_ble_eq_true rfl)) dX3_bindSpace_188 ⟨Nat.le_of_ble_eq_true rfl, Nat.le_of_ble_eq_true rfl⟩) hP hD hS hA [17] [0, 1, 2, 3, 4, 5, 6, 7, 8, 9, 10, 11, 12, 13, 14, 15, 16, 18] rfl rfl (by decide) (by decide) (fun H locs  hP hD hS => ?_)
      have hP : va_P (gD G) vwCl (wMk G h0 p0 ax ay az s0 sa sb sc se b0 ba bb bc be t1 t2 t3 t4 fi ps X Y Z ss SA SB SC SE mbs mBA mBB mBC mBD ml1 ml2 ml3 c1 c2 c3 v_8.1 v_8.2.1 v_8.2.2 f1 f2 f3) H := hP.sub [0, 1, 2, 3, 4, 5, 6, 7, 8, 9, 10, 11, 12, 13, 14, 15, 16, 18, 17] rfl
      have hD : va_D A (wMk G h0 p0 ax ay az s0 sa sb sc se b0 ba bb bc be t1 t2 t3 t4 fi ps X Y Z ss SA SB SC SE mbs mBA mBB mBC mBD ml1 ml2 ml3 c1 c2 c3 v_8.1 v_8.2.1 v_8.2.2 f1 f2 f3) := hD.sub [0, 1, 2, 3, 4, 5, 6, 7, 8, 9, 10, 11, 12, 13, 14, 15, 16, 18, 17] (by decide) rfl
      exact hJ191 mbs mBA mBB mBC mBD ml1 ml2 ml3 v_8.1 v_8.2.1 v_8.2.2 _ _ _ hF hP hD hS (lv_sub hl [1] rfl)
  have hJ174 : ∀ (mbs : Int32) (mBA : Nat → Int32) (mBB : Nat → Int32) (mBC : Nat → Int32) (mBD : Nat → Int32) (ml1 : Int32) (ml2 : Int32) (ml3 : Int32) (mr1 : Int32) (mr2 : Int32) (mr3 : Int32) (H : Heap) (locs : List Loc) (ls : Array Slot), JX3_bindSpace_174 fi ps X Y Z mbs mBA mBB mBC mBD ml1 ml2 ml3 mr1 mr2 mr3 = some res → va_P (gD G) vwCl (wMk G h0 p0 ax ay az s0 sa sb sc se b0 ba bb bc be t1 t2 t3 t4 fi ps X Y Z ss SA SB SC SE mbs mBA mBB mBC mBD ml1 ml2 ml3 c1 c2 c3 mr1 mr2 mr3 f1 f2 f3) H → va_D A (wMk G h0 p0 ax ay az s0 sa sb sc se b0 ba bb bc be t1 t2 t3 t4 fi ps X Y Z ss SA SB SC SE mbs mBA mBB mBC mBD ml1 ml2 ml3 c1 c2 c3 mr1 mr2 mr3 f1 f2 f3) → va_S A s.heap H locs → lv_has ls 2 [(0, .ref h0)] → W p l e (headSpec wsX3_bindSpace rX3_bindSpace).room s m ([.ref h0] : List Value).toArray below meth c H locs 0 0 (MQ below (va_Qv (fun (u : Int32 × (Nat → Int32) × (Nat → Int32) × (Nat → Int32) × (Nat → Int32) × Int32 × Int32 × Int32 × Int32 × Int32 × Int32) => u = res) (fun u t => qW G A (wMk G h0 p0 ax ay az s0 sa sb sc se b0 ba bb bc be t1 t2 t3 t4 fi ps X Y Z ss SA SB SC SE u.1 u.2.1 u.2.2.1 u.2.2.2.1 u.2.2.2.2.1 u.2.2.2.2.2.1 u.2.2.2.2.2.2.1 u.2.2.2.2.2.2.2.1 c1 c2 c3 u.2.2.2.2.2.2.2.2.1 u.2.2.2.2.2.2.2.2.2.1 u.2.2.2.2.2.2.2.2.2.2 f1 f2 f3) t) A) ([.ref h0] : List Value).toArray s 0 0 A) (F0 m 174 ls []) := by
    intro mbs mBA mBB mBC mBD ml1 ml2 ml3 mr1 mr2 mr3 H locs ls hF hP hD hS hl
    unfold JX3_bindSpace_174 at hF
    refine lv_iconst (v := 1) hx hb dX3_bindSpace_174 (by decide) ?_
    refine lv_goto (tgt := 179) hx hb dX3_bindSpace_175 (by decide) ?_
    exact hJ179 1 mbs mBA mBB mBC mBD ml1 ml2 ml3 mr1 mr2 mr3 _ _ _ hF hP hD hS (lv_sub hl [0] rfl)
  have hJ178 : ∀ (mbs : Int32) (mBA : Nat → Int32) (mBB : Nat → Int32) (mBC : Nat → Int32) (mBD : Nat → Int32) (ml1 : Int32) (ml2 : Int32) (ml3 : Int32) (mr1 : Int32) (mr2 : Int32) (mr3 : Int32) (H : Heap) (locs : List Loc) (ls : Array Slot), JX3_bindSpace_178 fi ps X Y Z mbs mBA mBB mBC mBD ml1 ml2 ml3 mr1 mr2 mr3 = some res → va_P (gD G) vwCl (wMk G h0 p0 ax ay az s0 sa sb sc se b0 ba bb bc be t1 t2 t3 t4 fi ps X Y Z ss SA SB SC SE mbs mBA mBB mBC mBD ml1 ml2 ml3 c1 c2 c3 mr1 mr2 mr3 f1 f2 f3) H → va_D A (wMk G h0 p0 ax ay az s0 sa sb sc se b0 ba bb bc be t1 t2 t3 t4 fi ps X Y Z ss SA SB SC SE mbs mBA mBB mBC mBD ml1 ml2 ml3 c1 c2 c3 mr1 mr2 mr3 f1 f2 f3) → va_S A s.heap H locs → lv_has ls 2 [(0, .ref h0)] → W p l e (headSpec wsX3_bindSpace rX3_bindSpace).room s m ([.ref h0] : List Value).toArray below meth c H locs 0 0 (MQ below (va_Qv (fun (u : Int32 × (Nat → Int32) × (Nat → Int32) × (Nat → Int32) × (Nat → Int32) × Int32 × Int32 × Int32 × Int32 × Int32 × Int32) => u = res) (fun u t => qW G A (wMk G h0 p0 ax ay az s0 sa sb sc se b0 ba bb bc be t1 t2 t3 t4 fi ps X Y Z ss SA SB SC SE u.1 u.2.1 u.2.2.1 u.2.2.2.1 u.2.2.2.2.1 u.2.2.2.2.2.1 u.2.2.2.2.2.2.1 u.2.2.2.2.2.2.2.1 c1 c2 c3 u.2.2.2.2.2.2.2.2.1 u.2.2.2.2.2.2.2.2.2.1 u.2.2.2.2.2.2.2.2.2.2 f1 f2 f3) t) A) ([.ref h0] : List Value).toArray s 0 0 A) (F0 m 178 ls []) := by
    intro mbs mBA mBB mBC mBD ml1 ml2 ml3 mr1 mr2 mr3 H locs ls hF hP hD hS hl
    unfold JX3_bindSpace_178 at hF
    refine lv_iconst (v := 0) hx hb dX3_bindSpace_178 (by decide) ?_
    exact hJ179 0 mbs mBA mBB mBC mBD ml1 ml2 ml3 mr1 mr2 mr3 _ _ _ hF hP hD hS (lv_sub hl [0] rfl)
  unfold fX3_bindSpace at hF
  refine lv_aload_n hx hb dX3_bindSpace_0 rfl (lv_at hl 0 rfl) ?_
  refine va_get (ci := 3) (v := .int fi) (C := RX3) (T := TX3) (N := 8) hx hb hts hin3 hown hK hP 0 rfl rfl 7 (by decide) hfl88 (fun _ h9 => h9) rfl dX3_bindSpace_1 ?_
  refine lv_if_ne (tgt := 31) hx hb dX3_bindSpace_4 (by decide) (fun c_1 => ?_) (fun c_1 => ?_)
  · replace hF := it_n c_1 hF
    refine lv_aload_n hx hb dX3_bindSpace_31 rfl (lv_at hl 0 rfl) ?_
    refine va_get (ci := 3) (v := .int fi) (C := RX3) (T := TX3) (N := 8) hx hb hts hin3 hown hK hP 0 rfl rfl 7 (by decide) hfl88 (fun _ h9 => h9) rfl dX3_bindSpace_32 ?_
    refine lv_iconst (v := 1) hx hb dX3_bindSpace_35 (by decide) ?_
    refine lv_icmp_ne (tgt := 109) hx hb dX3_bindSpace_36 (by decide) (fun c_2 => ?_) (fun c_2 => ?_)
    · replace hF := it_n c_2 hF
      refine lv_aload_n hx hb dX3_bindSpace_109 rfl (lv_at hl 0 rfl) ?_
      refine va_get (ci := 3) (v := .int fi) (C := RX3) (T := TX3) (N := 8) hx hb hts hin3 hown hK hP 0 rfl rfl 7 (by decide) hfl88 (fun _ h9 => h9) rfl dX3_bindSpace_110 ?_
      refine lv_iconst (v := 2) hx hb dX3_bindSpace_113 (by decide) ?_
      refine lv_icmp_ne (tgt := 216) hx hb dX3_bindSpace_114 (by decide) (fun c_3 => ?_) (fun c_3 => ?_)
      · replace hF := it_n c_3 hF
        exact W.vret hx hb hr (fun t ht hW => ⟨⟨(bs, BA, BB, BC, BD, l1, l2, l3, r1, r2, r3), rfl, so_e hF, qW_mk ht hP hK hW hD⟩, hS.F ht⟩) hS.2.2 dX3_bindSpace_216
      · replace hF := it_p c_3 hF
        refine lv_aload_n hx hb dX3_bindSpace_117 rfl (lv_at hl 0 rfl) ?_
        refine va_get (ci := 3) (v := .ref t3) (C := RX3) (T := TX3) (N := 8) hx hb hts hin3 hown hK hP 0 rfl rfl 5 (by decide) hfl40 (fun _ h9 => h9) rfl dX3_bindSpace_118 ?_
        obtain ⟨v_4, hv_4, hF⟩ := bd_s hF
        refine rw_ve (wf := (fun (u : Int32 × Int32 × Int32) => (wStp G t3 u.1 u.2.1 u.2.2))) (wr := [(h0, .inr (3, [.ref p0, .ref s0, .ref b0, .ref t1, .ref t2, .ref t3, .ref t4, .int fi])), (p0, .inr (4, [.ref ax, .ref ay, .ref az, .int ps])), (ax, .inl (gI G, 121, .inl X)), (ay, .inl (gI G, 121, .inl Y)), (az, .inl (gI G, 121, .inl Z)), (s0, .inr (1, [.ref sa, .ref sb, .ref sc, .ref se, .int ss])), (sa, .inl (gI G, 80, .inl SA)), (sb, .inl (gI G, 80, .inl SB)), (sc, .inl (gI G, 80, .inl SC)), (se, .inl (gI G, 80, .inl SE)), (b0, .inr (1, [.ref ba, .ref bb, .ref bc, .ref be, .int bs])), (ba, .inl (gI G, 3, .inl BA)), (bb, .inl (gI G, 3, .inl BB)), (bc, .inl (gI G, 3, .inl BC)), (be, .inl (gI G, 3, .inl BD)), (t1, .inr (6, [.int l1, .int l2, .int l3])), (t2, .inr (6, [.int c1, .int c2, .int c3])), (t4, .inr (6, [.int f1, .int f2, .int f3]))]) (va_runV (As := []) (rest := []) ⟨hx, hb, hml, hown, hts⟩ (kX6_shorten l G t3 s.heap.size r1 r2 r3 v_4 hv_4) (cwV 0 hts gX3_bindSpace_X6_shorten rfl rfl rfl (by decide +kernel) ⟨Nat.le_of_ble_eq_true rfl, Nat.le_of_ble_eq_true rfl⟩) (pvW (q0 := 0) 6 hK (hP.sub (ws' := (wStp G t3 r1 r2 r3)) [17] rfl) (hD.sub (ws' := (wStp G t3 r1 r2 r3)) [17] (by decide) rfl) rfl rfl) rfl rfl hl.1 rfl (lv_room (Nat.le_of_ble_eq_true rfl)) dX3_bindSpace_121 ⟨Nat.le_of_ble_eq_true rfl, Nat.le_of_ble_eq_true rfl⟩) hP hD hS hA [17] [0, 1, 2, 3, 4, 5, 6, 7, 8, 9, 10, 11, 12, 13, 14, 15, 16, 18] rfl rfl (by decide) (by decide) (fun H locs  hP hD hS => ?_)
        have hP : va_P (gD G) vwCl (wMk G h0 p0 ax ay az s0 sa sb sc se b0 ba bb bc be t1 t2 t3 t4 fi ps X Y Z ss SA SB SC SE bs BA BB BC BD l1 l2 l3 c1 c2 c3 v_4.1 v_4.2.1 v_4.2.2 f1 f2 f3) H := hP.sub [0, 1, 2, 3, 4, 5, 6, 7, 8, 9, 10, 11, 12, 13, 14, 15, 16, 18, 17] rfl
        have hD : va_D A (wMk G h0 p0 ax ay az s0 sa sb sc se b0 ba bb bc be t1 t2 t3 t4 fi ps X Y Z ss SA SB SC SE bs BA BB BC BD l1 l2 l3 c1 c2 c3 v_4.1 v_4.2.1 v_4.2.2 f1 f2 f3) := hD.sub [0, 1, 2, 3, 4, 5, 6, 7, 8, 9, 10, 11, 12, 13, 14, 15, 16, 18, 17] (by decide) rfl
        refine lv_aload_n hx hb dX3_bindSpace_124 rfl (lv_at hl 0 rfl) ?_
        refine va_get (ci := 3) (v := .ref t3) (C := RX3) (T := TX3) (N := 8) hx hb hts hin3 hown hK hP 0 rfl rfl 5 (by decide) hfl40 (fun _ h9 => h9) rfl dX3_bindSpace_125 ?_
        refine va_get (ci := 6) (v := .int v_4.1) (C := RX6) (T := TX6) (N := 3) hx hb hts hin6 hown hK hP 17 rfl rfl 0 (by decide) hfl127 (fun _ h9 => h9) rfl dX3_bindSpace_128 ?_
        refine lv_if_lt (tgt := 174) hx hb dX3_bindSpace_131 (by decide) (fun c_5 => ?_) (fun c_5 => ?_)
        · replace hF := it_p c_5 hF
          exact hJ174 bs BA BB BC BD l1 l2 l3 v_4.1 v_4.2.1 v_4.2.2 _ _ _ hF hP hD hS (lv_sub hl [0] rfl)
        · replace hF := it_n c_5 hF
          refine lv_aload_n hx hb dX3_bindSpace_134 rfl (lv_at hl 0 rfl) ?_
          refine va_get (ci := 3) (v := .ref t3) (C := RX3) (T := TX3) (N := 8) hx hb hts hin3 hown hK hP 0 rfl rfl 5 (by decide) hfl40 (fun _ h9 => h9) rfl dX3_bindSpace_135 ?_
          refine va_get (ci := 6) (v := .int v_4.1) (C := RX6) (T := TX6) (N := 3) hx hb hts hin6 hown hK hP 17 rfl rfl 0 (by decide) hfl127 (fun _ h9 => h9) rfl dX3_bindSpace_138 ?_
          refine lv_if_ne (tgt := 178) hx hb dX3_bindSpace_141 (by decide) (fun c_9 => ?_) (fun c_9 => ?_)
          · replace hF := it_n c_9 hF
            exact hJ178 bs BA BB BC BD l1 l2 l3 v_4.1 v_4.2.1 v_4.2.2 _ _ _ hF hP hD hS (lv_sub hl [0] rfl)
          · replace hF := it_p c_9 hF
            refine lv_aload_n hx hb dX3_bindSpace_144 rfl (lv_at hl 0 rfl) ?_
            refine va_get (ci := 3) (v := .ref t3) (C := RX3) (T := TX3) (N := 8) hx hb hts hin3 hown hK hP 0 rfl rfl 5 (by decide) hfl40 (fun _ h9 => h9) rfl dX3_bindSpace_145 ?_
            refine va_get (ci := 6) (v := .int v_4.2.1) (C := RX6) (T := TX6) (N := 3) hx hb hts hin6 hown hK hP 17 rfl rfl 1 (by decide) hfl125 (fun _ h9 => h9) rfl dX3_bindSpace_148 ?_
            refine lv_if_lt (tgt := 174) hx hb dX3_bindSpace_151 (by decide) (fun c_10 => ?_) (fun c_10 => ?_)
            · replace hF := it_p c_10 hF
              exact hJ174 bs BA BB BC BD l1 l2 l3 v_4.1 v_4.2.1 v_4.2.2 _ _ _ hF hP hD hS (lv_sub hl [0] rfl)
            · replace hF := it_n c_10 hF
              refine lv_aload_n hx hb dX3_bindSpace_154 rfl (lv_at hl 0 rfl) ?_
              refine va_get (ci := 3) (v := .ref t3) (C := RX3) (T := TX3) (N := 8) hx hb hts hin3 hown hK hP 0 rfl rfl 5 (by decide) hfl40 (fun _ h9 => h9) rfl dX3_bindSpace_155 ?_
              refine va_get (ci := 6) (v := .int v_4.2.1) (C := RX6) (T := TX6) (N := 3) hx hb hts hin6 hown hK hP 17 rfl rfl 1 (by decide) hfl125 (fun _ h9 => h9) rfl dX3_bindSpace_158 ?_
              refine lv_if_ne (tgt := 178) hx hb dX3_bindSpace_161 (by decide) (fun c_11 => ?_) (fun c_11 => ?_)
              · replace hF := it_n c_11 hF
                exact hJ178 bs BA BB BC BD l1 l2 l3 v_4.1 v_4.2.1 v_4.2.2 _ _ _ hF hP hD hS (lv_sub hl [0] rfl)
              · replace hF := it_p c_11 hF
                refine lv_aload_n hx hb dX3_bindSpace_164 rfl (lv_at hl 0 rfl) ?_
                refine va_get (ci := 3) (v := .ref t3) (C := RX3) (T := TX3) (N := 8) hx hb hts hin3 hown hK hP 0 rfl rfl 5 (by decide) hfl40 (fun _ h9 => h9) rfl dX3_bindSpace_165 ?_
                refine va_get (ci := 6) (v := .int v_4.2.2) (C := RX6) (T := TX6) (N := 3) hx hb hts hin6 hown hK hP 17 rfl rfl 2 (by decide) hfl123 (fun _ h9 => h9) rfl dX3_bindSpace_168 ?_
                refine lv_if_ge (tgt := 178) hx hb dX3_bindSpace_171 (by decide) (fun c_12 => ?_) (fun c_12 => ?_)
                · replace hF := it_p c_12 hF
                  exact hJ178 bs BA BB BC BD l1 l2 l3 v_4.1 v_4.2.1 v_4.2.2 _ _ _ hF hP hD hS (lv_sub hl [0] rfl)
                · replace hF := it_n c_12 hF
                  exact hJ174 bs BA BB BC BD l1 l2 l3 v_4.1 v_4.2.1 v_4.2.2 _ _ _ hF hP hD hS (lv_sub hl [0] rfl)
    · replace hF := it_p c_2 hF
      refine lv_aload_n hx hb dX3_bindSpace_39 rfl (lv_at hl 0 rfl) ?_
      refine va_get (ci := 3) (v := .ref t1) (C := RX3) (T := TX3) (N := 8) hx hb hts hin3 hown hK hP 0 rfl rfl 3 (by decide) hfl33 (fun _ h9 => h9) rfl dX3_bindSpace_40 ?_
      obtain ⟨v_13, hv_13, hF⟩ := bd_s hF
      refine rw_ve (wf := (fun (u : Int32 × Int32 × Int32) => (wStp G t1 u.1 u.2.1 u.2.2))) (wr := [(h0, .inr (3, [.ref p0, .ref s0, .ref b0, .ref t1, .ref t2, .ref t3, .ref t4, .int fi])), (p0, .inr (4, [.ref ax, .ref ay, .ref az, .int ps])), (ax, .inl (gI G, 121, .inl X)), (ay, .inl (gI G, 121, .inl Y)), (az, .inl (gI G, 121, .inl Z)), (s0, .inr (1, [.ref sa, .ref sb, .ref sc, .ref se, .int ss])), (sa, .inl (gI G, 80, .inl SA)), (sb, .inl (gI G, 80, .inl SB)), (sc, .inl (gI G, 80, .inl SC)), (se, .inl (gI G, 80, .inl SE)), (b0, .inr (1, [.ref ba, .ref bb, .ref bc, .ref be, .int bs])), (ba, .inl (gI G, 3, .inl BA)), (bb, .inl (gI G, 3, .inl BB)), (bc, .inl (gI G, 3, .inl BC)), (be, .inl (gI G, 3, .inl BD)), (t2, .inr (6, [.int c1, .int c2, .int c3])), (t3, .inr (6, [.int r1, .int r2, .int r3])), (t4, .inr (6, [.int f1, .int f2, .int f3]))]) (va_runV (As := []) (rest := []) ⟨hx, hb, hml, hown, hts⟩ (kX6_shorten l G t1 s.heap.size l1 l2 l3 v_13 hv_13) (cwV 0 hts gX3_bindSpace_X6_shorten rfl rfl rfl (by decide +kernel) ⟨Nat.le_of_ble_eq_true rfl, Nat.le_of_ble_eq_true rfl⟩) (pvW (q0 := 0) 6 hK (hP.sub (ws' := (wStp G t1 l1 l2 l3)) [15] rfl) (hD.sub (ws' := (wStp G t1 l1 l2 l3)) [15] (by decide) rfl) rfl rfl) rfl rfl hl.1 rfl (lv_room (Nat.le_of_ble_eq_true rfl)) dX3_bindSpace_43 ⟨Nat.le_of_ble_eq_true rfl, Nat.le_of_ble_eq_true rfl⟩) hP hD hS hA [15] [0, 1, 2, 3, 4, 5, 6, 7, 8, 9, 10, 11, 12, 13, 14, 16, 17, 18] rfl rfl (by decide) (by decide) (fun H locs  hP hD hS => ?_)
      have hP : va_P (gD G) vwCl (wMk G h0 p0 ax ay az s0 sa sb sc se b0 ba bb bc be t1 t2 t3 t4 fi ps X Y Z ss SA SB SC SE bs BA BB BC BD v_13.1 v_13.2.1 v_13.2.2 c1 c2 c3 r1 r2 r3 f1 f2 f3) H := hP.sub [0, 1, 2, 3, 4, 5, 6, 7, 8, 9, 10, 11, 12, 13, 14, 18, 15, 16, 17] rfl
      have hD : va_D A (wMk G h0 p0 ax ay az s0 sa sb sc se b0 ba bb bc be t1 t2 t3 t4 fi ps X Y Z ss SA SB SC SE bs BA BB BC BD v_13.1 v_13.2.1 v_13.2.2 c1 c2 c3 r1 r2 r3 f1 f2 f3) := hD.sub [0, 1, 2, 3, 4, 5, 6, 7, 8, 9, 10, 11, 12, 13, 14, 18, 15, 16, 17] (by decide) rfl
      refine lv_aload_n hx hb dX3_bindSpace_46 rfl (lv_at hl 0 rfl) ?_
      refine lv_iconst (v := 0) hx hb dX3_bindSpace_47 (by decide) ?_
      refine lv_aload_n hx hb dX3_bindSpace_48 rfl (lv_at hl 0 rfl) ?_
      refine va_get (ci := 3) (v := .ref t1) (C := RX3) (T := TX3) (N := 8) hx hb hts hin3 hown hK hP 0 rfl rfl 3 (by decide) hfl33 (fun _ h9 => h9) rfl dX3_bindSpace_49 ?_
      refine va_get (ci := 6) (v := .int v_13.2.2) (C := RX6) (T := TX6) (N := 3) hx hb hts hin6 hown hK hP 15 rfl rfl 2 (by decide) hfl123 (fun _ h9 => h9) rfl dX3_bindSpace_52 ?_
      refine lv_aload_n hx hb dX3_bindSpace_55 rfl (lv_at hl 0 rfl) ?_
      refine va_get (ci := 3) (v := .ref t1) (C := RX3) (T := TX3) (N := 8) hx hb hts hin3 hown hK hP 0 rfl rfl 3 (by decide) hfl33 (fun _ h9 => h9) rfl dX3_bindSpace_56 ?_
      refine va_get (ci := 6) (v := .int v_13.2.1) (C := RX6) (T := TX6) (N := 3) hx hb hts hin6 hown hK hP 15 rfl rfl 1 (by decide) hfl125 (fun _ h9 => h9) rfl dX3_bindSpace_59 ?_
      refine lv_ineg hx hb dX3_bindSpace_62 ?_
      obtain ⟨v_14, hv_14, hF⟩ := bd_s hF
      refine rw_ve (wf := (fun (u : Int32 × (Nat → Int32) × (Nat → Int32) × (Nat → Int32) × (Nat → Int32)) => (wMk G h0 p0 ax ay az s0 sa sb sc se b0 ba bb bc be t1 t2 t3 t4 fi ps X Y Z ss SA SB SC SE u.1 u.2.1 u.2.2.1 u.2.2.2.1 u.2.2.2.2 v_13.1 v_13.2.1 v_13.2.2 c1 c2 c3 r1 r2 r3 f1 f2 f3))) (wr := []) (va_runV (As := [.int 0, .int v_13.2.2, .int (-v_13.2.1)]) (rest := []) ⟨hx, hb, hml, hown, hts⟩ (kX3_bind l G h0 p0 ax ay az s0 sa sb sc se b0 ba bb bc be t1 t2 t3 t4 H.size fi ps X Y Z ss SA SB SC SE bs BA BB BC BD v_13.1 v_13.2.1 v_13.2.2 c1 c2 c3 r1 r2 r3 f1 f2 f3 0 v_13.2.2 (-v_13.2.1) v_14 hv_14) (cwV 3 hts gX3_bindSpace_X3_bind rfl rfl rfl (by decide +kernel) ⟨Nat.le_of_ble_eq_true rfl, Nat.le_of_ble_eq_true rfl⟩) (pvW (q0 := 0) 3 hK (hP.sub (ws' := (wMk G h0 p0 ax ay az s0 sa sb sc se b0 ba bb bc be t1 t2 t3 t4 fi ps X Y Z ss SA SB SC SE bs BA BB BC BD v_13.1 v_13.2.1 v_13.2.2 c1 c2 c3 r1 r2 r3 f1 f2 f3)) [0, 1, 2, 3, 4, 5, 6, 7, 8, 9, 10, 11, 12, 13, 14, 15, 16, 17, 18] rfl) (hD.sub (ws' := (wMk G h0 p0 ax ay az s0 sa sb sc se b0 ba bb bc be t1 t2 t3 t4 fi ps X Y Z ss SA SB SC SE bs BA BB BC BD v_13.1 v_13.2.1 v_13.2.2 c1 c2 c3 r1 r2 r3 f1 f2 f3)) [0, 1, 2, 3, 4, 5, 6, 7, 8, 9, 10, 11, 12, 13, 14, 15, 16, 17, 18] (by decide) rfl) rfl rfl) rfl rfl hl.1 rfl (lv_room (Nat.le_of_ble_eq_true rfl)) dX3_bindSpace_63 ⟨Nat.le_of_ble_eq_true rfl, Nat.le_of_ble_eq_true rfl⟩) hP hD hS hA [0, 1, 2, 3, 4, 5, 6, 7, 8, 9, 10, 11, 12, 13, 14, 15, 16, 17, 18] [] rfl rfl (by decide) (by decide) (fun H locs  hP hD hS => ?_)
      have hP : va_P (gD G) vwCl (wMk G h0 p0 ax ay az s0 sa sb sc se b0 ba bb bc be t1 t2 t3 t4 fi ps X Y Z ss SA SB SC SE v_14.1 v_14.2.1 v_14.2.2.1 v_14.2.2.2.1 v_14.2.2.2.2 v_13.1 v_13.2.1 v_13.2.2 c1 c2 c3 r1 r2 r3 f1 f2 f3) H := hP.sub [0, 1, 2, 3, 4, 5, 6, 7, 8, 9, 10, 11, 12, 13, 14, 15, 16, 17, 18] rfl
      have hD : va_D A (wMk G h0 p0 ax ay az s0 sa sb sc se b0 ba bb bc be t1 t2 t3 t4 fi ps X Y Z ss SA SB SC SE v_14.1 v_14.2.1 v_14.2.2.1 v_14.2.2.2.1 v_14.2.2.2.2 v_13.1 v_13.2.1 v_13.2.2 c1 c2 c3 r1 r2 r3 f1 f2 f3) := hD.sub [0, 1, 2, 3, 4, 5, 6, 7, 8, 9, 10, 11, 12, 13, 14, 15, 16, 17, 18] (by decide) rfl
      refine lv_aload_n hx hb dX3_bindSpace_66 rfl (lv_at hl 0 rfl) ?_
      refine lv_aload_n hx hb dX3_bindSpace_67 rfl (lv_at hl 0 rfl) ?_
      refine va_get (ci := 3) (v := .ref t1) (C := RX3) (T := TX3) (N := 8) hx hb hts hin3 hown hK hP 0 rfl rfl 3 (by decide) hfl33 (fun _ h9 => h9) rfl dX3_bindSpace_68 ?_
      refine va_get (ci := 6) (v := .int v_13.2.2) (C := RX6) (T := TX6) (N := 3) hx hb hts hin6 hown hK hP 15 rfl rfl 2 (by decide) hfl123 (fun _ h9 => h9) rfl dX3_bindSpace_71 ?_
      refine lv_ineg hx hb dX3_bindSpace_74 ?_
      refine lv_iconst (v := 0) hx hb dX3_bindSpace_75 (by decide) ?_
      refine lv_aload_n hx hb dX3_bindSpace_76 rfl (lv_at hl 0 rfl) ?_
      refine va_get (ci := 3) (v := .ref t1) (C := RX3) (T := TX3) (N := 8) hx hb hts hin3 hown hK hP 0 rfl rfl 3 (by decide) hfl33 (fun _ h9 => h9) rfl dX3_bindSpace_77 ?_
      refine va_get (ci := 6) (v := .int v_13.1) (C := RX6) (T := TX6) (N := 3) hx hb hts hin6 hown hK hP 15 rfl rfl 0 (by decide) hfl127 (fun _ h9 => h9) rfl dX3_bindSpace_80 ?_
      obtain ⟨v_15, hv_15, hF⟩ := bd_s hF
      refine rw_ve (wf := (fun (u : Int32 × (Nat → Int32) × (Nat → Int32) × (Nat → Int32) × (Nat → Int32)) => (wMk G h0 p0 ax ay az s0 sa sb sc se b0 ba bb bc be t1 t2 t3 t4 fi ps X Y Z ss SA SB SC SE u.1 u.2.1 u.2.2.1 u.2.2.2.1 u.2.2.2.2 v_13.1 v_13.2.1 v_13.2.2 c1 c2 c3 r1 r2 r3 f1 f2 f3))) (wr := []) (va_runV (As := [.int (-v_13.2.2), .int 0, .int v_13.1]) (rest := []) ⟨hx, hb, hml, hown, hts⟩ (kX3_bind l G h0 p0 ax ay az s0 sa sb sc se b0 ba bb bc be t1 t2 t3 t4 H.size fi ps X Y Z ss SA SB SC SE v_14.1 v_14.2.1 v_14.2.2.1 v_14.2.2.2.1 v_14.2.2.2.2 v_13.1 v_13.2.1 v_13.2.2 c1 c2 c3 r1 r2 r3 f1 f2 f3 (-v_13.2.2) 0 v_13.1 v_15 hv_15) (cwV 3 hts gX3_bindSpace_X3_bind rfl rfl rfl (by decide +kernel) ⟨Nat.le_of_ble_eq_true rfl, Nat.le_of_ble_eq_true rfl⟩) (pvW (q0 := 0) 3 hK (hP.sub (ws' := (wMk G h0 p0 ax ay az s0 sa sb sc se b0 ba bb bc be t1 t2 t3 t4 fi ps X Y Z ss SA SB SC SE v_14.1 v_14.2.1 v_14.2.2.1 v_14.2.2.2.1 v_14.2.2.2.2 v_13.1 v_13.2.1 v_13.2.2 c1 c2 c3 r1 r2 r3 f1 f2 f3)) [0, 1, 2, 3, 4, 5, 6, 7, 8, 9, 10, 11, 12, 13, 14, 15, 16, 17, 18] rfl) (hD.sub (ws' := (wMk G h0 p0 ax ay az s0 sa sb sc se b0 ba bb bc be t1 t2 t3 t4 fi ps X Y Z ss SA SB SC SE v_14.1 v_14.2.1 v_14.2.2.1 v_14.2.2.2.1 v_14.2.2.2.2 v_13.1 v_13.2.1 v_13.2.2 c1 c2 c3 r1 r2 r3 f1 f2 f3)) [0, 1, 2, 3, 4, 5, 6, 7, 8, 9, 10, 11, 12, 13, 14, 15, 16, 17, 18] (by decide) rfl) rfl rfl) rfl rfl hl.1 rfl (lv_room (Nat.le_of_ble_eq_true rfl)) dX3_bindSpace_83 ⟨Nat.le_of_ble_eq_true rfl, Nat.le_of_ble_eq_true rfl⟩) hP hD hS hA [0, 1, 2, 3, 4, 5, 6, 7, 8, 9, 10, 11, 12, 13, 14, 15, 16, 17, 18] [] rfl rfl (by decide) (by decide) (fun H locs  hP hD hS => ?_)
      have hP : va_P (gD G) vwCl (wMk G h0 p0 ax ay az s0 sa sb sc se b0 ba bb bc be t1 t2 t3 t4 fi ps X Y Z ss SA SB SC SE v_15.1 v_15.2.1 v_15.2.2.1 v_15.2.2.2.1 v_15.2.2.2.2 v_13.1 v_13.2.1 v_13.2.2 c1 c2 c3 r1 r2 r3 f1 f2 f3) H := hP.sub [0, 1, 2, 3, 4, 5, 6, 7, 8, 9, 10, 11, 12, 13, 14, 15, 16, 17, 18] rfl
      have hD : va_D A (wMk G h0 p0 ax ay az s0 sa sb sc se b0 ba bb bc be t1 t2 t3 t4 fi ps X Y Z ss SA SB SC SE v_15.1 v_15.2.1 v_15.2.2.1 v_15.2.2.2.1 v_15.2.2.2.2 v_13.1 v_13.2.1 v_13.2.2 c1 c2 c3 r1 r2 r3 f1 f2 f3) := hD.sub [0, 1, 2, 3, 4, 5, 6, 7, 8, 9, 10, 11, 12, 13, 14, 15, 16, 17, 18] (by decide) rfl
      refine lv_aload_n hx hb dX3_bindSpace_86 rfl (lv_at hl 0 rfl) ?_
      refine lv_aload_n hx hb dX3_bindSpace_87 rfl (lv_at hl 0 rfl) ?_
      refine va_get (ci := 3) (v := .ref t1) (C := RX3) (T := TX3) (N := 8) hx hb hts hin3 hown hK hP 0 rfl rfl 3 (by decide) hfl33 (fun _ h9 => h9) rfl dX3_bindSpace_88 ?_
      refine va_get (ci := 6) (v := .int v_13.2.1) (C := RX6) (T := TX6) (N := 3) hx hb hts hin6 hown hK hP 15 rfl rfl 1 (by decide) hfl125 (fun _ h9 => h9) rfl dX3_bindSpace_91 ?_
      refine lv_aload_n hx hb dX3_bindSpace_94 rfl (lv_at hl 0 rfl) ?_
      refine va_get (ci := 3) (v := .ref t1) (C := RX3) (T := TX3) (N := 8) hx hb hts hin3 hown hK hP 0 rfl rfl 3 (by decide) hfl33 (fun _ h9 => h9) rfl dX3_bindSpace_95 ?_
      refine va_get (ci := 6) (v := .int v_13.1) (C := RX6) (T := TX6) (N := 3) hx hb hts hin6 hown hK hP 15 rfl rfl 0 (by decide) hfl127 (fun _ h9 => h9) rfl dX3_bindSpace_98 ?_
      refine lv_ineg hx hb dX3_bindSpace_101 ?_
      refine lv_iconst (v := 0) hx hb dX3_bindSpace_102 (by decide) ?_
      obtain ⟨v_16, hv_16, hF⟩ := bd_s hF
      refine rw_ve (wf := (fun (u : Int32 × (Nat → Int32) × (Nat → Int32) × (Nat → Int32) × (Nat → Int32)) => (wMk G h0 p0 ax ay az s0 sa sb sc se b0 ba bb bc be t1 t2 t3 t4 fi ps X Y Z ss SA SB SC SE u.1 u.2.1 u.2.2.1 u.2.2.2.1 u.2.2.2.2 v_13.1 v_13.2.1 v_13.2.2 c1 c2 c3 r1 r2 r3 f1 f2 f3))) (wr := []) (va_runV (As := [.int v_13.2.1, .int (-v_13.1), .int 0]) (rest := []) ⟨hx, hb, hml, hown, hts⟩ (kX3_bind l G h0 p0 ax ay az s0 sa sb sc se b0 ba bb bc be t1 t2 t3 t4 H.size fi ps X Y Z ss SA SB SC SE v_15.1 v_15.2.1 v_15.2.2.1 v_15.2.2.2.1 v_15.2.2.2.2 v_13.1 v_13.2.1 v_13.2.2 c1 c2 c3 r1 r2 r3 f1 f2 f3 v_13.2.1 (-v_13.1) 0 v_16 hv_16) (cwV 3 hts gX3_bindSpace_X3_bind rfl rfl rfl (by decide +kernel) ⟨Nat.le_of_ble_eq_true rfl, Nat.le_of_ble_eq_true rfl⟩) (pvW (q0 := 0) 3 hK (hP.sub (ws' := (wMk G h0 p0 ax ay az s0 sa sb sc se b0 ba bb bc be t1 t2 t3 t4 fi ps X Y Z ss SA SB SC SE v_15.1 v_15.2.1 v_15.2.2.1 v_15.2.2.2.1 v_15.2.2.2.2 v_13.1 v_13.2.1 v_13.2.2 c1 c2 c3 r1 r2 r3 f1 f2 f3)) [0, 1, 2, 3, 4, 5, 6, 7, 8, 9, 10, 11, 12, 13, 14, 15, 16, 17, 18] rfl) (hD.sub (ws' := (wMk G h0 p0 ax ay az s0 sa sb sc se b0 ba bb bc be t1 t2 t3 t4 fi ps X Y Z ss SA SB SC SE v_15.1 v_15.2.1 v_15.2.2.1 v_15.2.2.2.1 v_15.2.2.2.2 v_13.1 v_13.2.1 v_13.2.2 c1 c2 c3 r1 r2 r3 f1 f2 f3)) [0, 1, 2, 3, 4, 5, 6, 7, 8, 9, 10, 11, 12, 13, 14, 15, 16, 17, 18] (by decide) rfl) rfl rfl) rfl rfl hl.1 rfl (lv_room (Nat.le_of_ble_eq_true rfl)) dX3_bindSpace_103 ⟨Nat.le_of_ble_eq_true rfl, Nat.le_of_ble_eq_true rfl⟩) hP hD hS hA [0, 1, 2, 3, 4, 5, 6, 7, 8, 9, 10, 11, 12, 13, 14, 15, 16, 17, 18] [] rfl rfl (by decide) (by decide) (fun H locs  hP hD hS => ?_)
      have hP : va_P (gD G) vwCl (wMk G h0 p0 ax ay az s0 sa sb sc se b0 ba bb bc be t1 t2 t3 t4 fi ps X Y Z ss SA SB SC SE v_16.1 v_16.2.1 v_16.2.2.1 v_16.2.2.2.1 v_16.2.2.2.2 v_13.1 v_13.2.1 v_13.2.2 c1 c2 c3 r1 r2 r3 f1 f2 f3) H := hP.sub [0, 1, 2, 3, 4, 5, 6, 7, 8, 9, 10, 11, 12, 13, 14, 15, 16, 17, 18] rfl
      have hD : va_D A (wMk G h0 p0 ax ay az s0 sa sb sc se b0 ba bb bc be t1 t2 t3 t4 fi ps X Y Z ss SA SB SC SE v_16.1 v_16.2.1 v_16.2.2.1 v_16.2.2.2.1 v_16.2.2.2.2 v_13.1 v_13.2.1 v_13.2.2 c1 c2 c3 r1 r2 r3 f1 f2 f3) := hD.sub [0, 1, 2, 3, 4, 5, 6, 7, 8, 9, 10, 11, 12, 13, 14, 15, 16, 17, 18] (by decide) rfl
      refine lv_goto (tgt := 216) hx hb dX3_bindSpace_106 (by decide) ?_
      exact W.vret hx hb hr (fun t ht hW => ⟨⟨(v_16.1, v_16.2.1, v_16.2.2.1, v_16.2.2.2.1, v_16.2.2.2.2, v_13.1, v_13.2.1, v_13.2.2, r1, r2, r3), rfl, so_e hF, qW_mk ht hP hK hW hD⟩, hS.F ht⟩) hS.2.2 dX3_bindSpace_216
  · replace hF := it_p c_1 hF
    refine lv_aload_n hx hb dX3_bindSpace_7 rfl (lv_at hl 0 rfl) ?_
    refine lv_iconst (v := 1) hx hb dX3_bindSpace_8 (by decide) ?_
    refine lv_iconst (v := 0) hx hb dX3_bindSpace_9 (by decide) ?_
    refine lv_iconst (v := 0) hx hb dX3_bindSpace_10 (by decide) ?_
    obtain ⟨v_17, hv_17, hF⟩ := bd_s hF
    refine rw_ve (wf := (fun (u : Int32 × (Nat → Int32) × (Nat → Int32) × (Nat → Int32) × (Nat → Int32)) => (wMk G h0 p0 ax ay az s0 sa sb sc se b0 ba bb bc be t1 t2 t3 t4 fi ps X Y Z ss SA SB SC SE u.1 u.2.1 u.2.2.1 u.2.2.2.1 u.2.2.2.2 l1 l2 l3 c1 c2 c3 r1 r2 r3 f1 f2 f3))) (wr := []) (va_runV (As := [.int 1, .int 0, .int 0]) (rest := []) ⟨hx, hb, hml, hown, hts⟩ (kX3_bind l G h0 p0 ax ay az s0 sa sb sc se b0 ba bb bc be t1 t2 t3 t4 s.heap.size fi ps X Y Z ss SA SB SC SE bs BA BB BC BD l1 l2 l3 c1 c2 c3 r1 r2 r3 f1 f2 f3 1 0 0 v_17 hv_17) (cwV 3 hts gX3_bindSpace_X3_bind rfl rfl rfl (by decide +kernel) ⟨Nat.le_of_ble_eq_true rfl, Nat.le_of_ble_eq_true rfl⟩) (pvW (q0 := 0) 3 hK (hP.sub (ws' := (wMk G h0 p0 ax ay az s0 sa sb sc se b0 ba bb bc be t1 t2 t3 t4 fi ps X Y Z ss SA SB SC SE bs BA BB BC BD l1 l2 l3 c1 c2 c3 r1 r2 r3 f1 f2 f3)) [0, 1, 2, 3, 4, 5, 6, 7, 8, 9, 10, 11, 12, 13, 14, 15, 16, 17, 18] rfl) (hD.sub (ws' := (wMk G h0 p0 ax ay az s0 sa sb sc se b0 ba bb bc be t1 t2 t3 t4 fi ps X Y Z ss SA SB SC SE bs BA BB BC BD l1 l2 l3 c1 c2 c3 r1 r2 r3 f1 f2 f3)) [0, 1, 2, 3, 4, 5, 6, 7, 8, 9, 10, 11, 12, 13, 14, 15, 16, 17, 18] (by decide) rfl) rfl rfl) rfl rfl hl.1 rfl (lv_room (Nat.le_of_ble_eq_true rfl)) dX3_bindSpace_11 ⟨Nat.le_of_ble_eq_true rfl, Nat.le_of_ble_eq_true rfl⟩) hP hD hS hA [0, 1, 2, 3, 4, 5, 6, 7, 8, 9, 10, 11, 12, 13, 14, 15, 16, 17, 18] [] rfl rfl (by decide) (by decide) (fun H locs  hP hD hS => ?_)
    have hP : va_P (gD G) vwCl (wMk G h0 p0 ax ay az s0 sa sb sc se b0 ba bb bc be t1 t2 t3 t4 fi ps X Y Z ss SA SB SC SE v_17.1 v_17.2.1 v_17.2.2.1 v_17.2.2.2.1 v_17.2.2.2.2 l1 l2 l3 c1 c2 c3 r1 r2 r3 f1 f2 f3) H := hP.sub [0, 1, 2, 3, 4, 5, 6, 7, 8, 9, 10, 11, 12, 13, 14, 15, 16, 17, 18] rfl
    have hD : va_D A (wMk G h0 p0 ax ay az s0 sa sb sc se b0 ba bb bc be t1 t2 t3 t4 fi ps X Y Z ss SA SB SC SE v_17.1 v_17.2.1 v_17.2.2.1 v_17.2.2.2.1 v_17.2.2.2.2 l1 l2 l3 c1 c2 c3 r1 r2 r3 f1 f2 f3) := hD.sub [0, 1, 2, 3, 4, 5, 6, 7, 8, 9, 10, 11, 12, 13, 14, 15, 16, 17, 18] (by decide) rfl
    refine lv_aload_n hx hb dX3_bindSpace_14 rfl (lv_at hl 0 rfl) ?_
    refine lv_iconst (v := 0) hx hb dX3_bindSpace_15 (by decide) ?_
    refine lv_iconst (v := 1) hx hb dX3_bindSpace_16 (by decide) ?_
    refine lv_iconst (v := 0) hx hb dX3_bindSpace_17 (by decide) ?_
    obtain ⟨v_18, hv_18, hF⟩ := bd_s hF
    refine rw_ve (wf := (fun (u : Int32 × (Nat → Int32) × (Nat → Int32) × (Nat → Int32) × (Nat → Int32)) => (wMk G h0 p0 ax ay az s0 sa sb sc se b0 ba bb bc be t1 t2 t3 t4 fi ps X Y Z ss SA SB SC SE u.1 u.2.1 u.2.2.1 u.2.2.2.1 u.2.2.2.2 l1 l2 l3 c1 c2 c3 r1 r2 r3 f1 f2 f3))) (wr := []) (va_runV (As := [.int 0, .int 1, .int 0]) (rest := []) ⟨hx, hb, hml, hown, hts⟩ (kX3_bind l G h0 p0 ax ay az s0 sa sb sc se b0 ba bb bc be t1 t2 t3 t4 H.size fi ps X Y Z ss SA SB SC SE v_17.1 v_17.2.1 v_17.2.2.1 v_17.2.2.2.1 v_17.2.2.2.2 l1 l2 l3 c1 c2 c3 r1 r2 r3 f1 f2 f3 0 1 0 v_18 hv_18) (cwV 3 hts gX3_bindSpace_X3_bind rfl rfl rfl (by decide +kernel) ⟨Nat.le_of_ble_eq_true rfl, Nat.le_of_ble_eq_true rfl⟩) (pvW (q0 := 0) 3 hK (hP.sub (ws' := (wMk G h0 p0 ax ay az s0 sa sb sc se b0 ba bb bc be t1 t2 t3 t4 fi ps X Y Z ss SA SB SC SE v_17.1 v_17.2.1 v_17.2.2.1 v_17.2.2.2.1 v_17.2.2.2.2 l1 l2 l3 c1 c2 c3 r1 r2 r3 f1 f2 f3)) [0, 1, 2, 3, 4, 5, 6, 7, 8, 9, 10, 11, 12, 13, 14, 15, 16, 17, 18] rfl) (hD.sub (ws' := (wMk G h0 p0 ax ay az s0 sa sb sc se b0 ba bb bc be t1 t2 t3 t4 fi ps X Y Z ss SA SB SC SE v_17.1 v_17.2.1 v_17.2.2.1 v_17.2.2.2.1 v_17.2.2.2.2 l1 l2 l3 c1 c2 c3 r1 r2 r3 f1 f2 f3)) [0, 1, 2, 3, 4, 5, 6, 7, 8, 9, 10, 11, 12, 13, 14, 15, 16, 17, 18] (by decide) rfl) rfl rfl) rfl rfl hl.1 rfl (lv_room (Nat.le_of_ble_eq_true rfl)) dX3_bindSpace_18 ⟨Nat.le_of_ble_eq_true rfl, Nat.le_of_ble_eq_true rfl⟩) hP hD hS hA [0, 1, 2, 3, 4, 5, 6, 7, 8, 9, 10, 11, 12, 13, 14, 15, 16, 17, 18] [] rfl rfl (by decide) (by decide) (fun H locs  hP hD hS => ?_)
    have hP : va_P (gD G) vwCl (wMk G h0 p0 ax ay az s0 sa sb sc se b0 ba bb bc be t1 t2 t3 t4 fi ps X Y Z ss SA SB SC SE v_18.1 v_18.2.1 v_18.2.2.1 v_18.2.2.2.1 v_18.2.2.2.2 l1 l2 l3 c1 c2 c3 r1 r2 r3 f1 f2 f3) H := hP.sub [0, 1, 2, 3, 4, 5, 6, 7, 8, 9, 10, 11, 12, 13, 14, 15, 16, 17, 18] rfl
    have hD : va_D A (wMk G h0 p0 ax ay az s0 sa sb sc se b0 ba bb bc be t1 t2 t3 t4 fi ps X Y Z ss SA SB SC SE v_18.1 v_18.2.1 v_18.2.2.1 v_18.2.2.2.1 v_18.2.2.2.2 l1 l2 l3 c1 c2 c3 r1 r2 r3 f1 f2 f3) := hD.sub [0, 1, 2, 3, 4, 5, 6, 7, 8, 9, 10, 11, 12, 13, 14, 15, 16, 17, 18] (by decide) rfl
    refine lv_aload_n hx hb dX3_bindSpace_21 rfl (lv_at hl 0 rfl) ?_
    refine lv_iconst (v := 0) hx hb dX3_bindSpace_22 (by decide) ?_
    refine lv_iconst (v := 0) hx hb dX3_bindSpace_23 (by decide) ?_
    refine lv_iconst (v := 1) hx hb dX3_bindSpace_24 (by decide) ?_
    obtain ⟨v_19, hv_19, hF⟩ := bd_s hF
    refine rw_ve (wf := (fun (u : Int32 × (Nat → Int32) × (Nat → Int32) × (Nat → Int32) × (Nat → Int32)) => (wMk G h0 p0 ax ay az s0 sa sb sc se b0 ba bb bc be t1 t2 t3 t4 fi ps X Y Z ss SA SB SC SE u.1 u.2.1 u.2.2.1 u.2.2.2.1 u.2.2.2.2 l1 l2 l3 c1 c2 c3 r1 r2 r3 f1 f2 f3))) (wr := []) (va_runV (As := [.int 0, .int 0, .int 1]) (rest := []) ⟨hx, hb, hml, hown, hts⟩ (kX3_bind l G h0 p0 ax ay az s0 sa sb sc se b0 ba bb bc be t1 t2 t3 t4 H.size fi ps X Y Z ss SA SB SC SE v_18.1 v_18.2.1 v_18.2.2.1 v_18.2.2.2.1 v_18.2.2.2.2 l1 l2 l3 c1 c2 c3 r1 r2 r3 f1 f2 f3 0 0 1 v_19 hv_19) (cwV 3 hts gX3_bindSpace_X3_bind rfl rfl rfl (by decide +kernel) ⟨Nat.le_of_ble_eq_true rfl, Nat.le_of_ble_eq_true rfl⟩) (pvW (q0 := 0) 3 hK (hP.sub (ws' := (wMk G h0 p0 ax ay az s0 sa sb sc se b0 ba bb bc be t1 t2 t3 t4 fi ps X Y Z ss SA SB SC SE v_18.1 v_18.2.1 v_18.2.2.1 v_18.2.2.2.1 v_18.2.2.2.2 l1 l2 l3 c1 c2 c3 r1 r2 r3 f1 f2 f3)) [0, 1, 2, 3, 4, 5, 6, 7, 8, 9, 10, 11, 12, 13, 14, 15, 16, 17, 18] rfl) (hD.sub (ws' := (wMk G h0 p0 ax ay az s0 sa sb sc se b0 ba bb bc be t1 t2 t3 t4 fi ps X Y Z ss SA SB SC SE v_18.1 v_18.2.1 v_18.2.2.1 v_18.2.2.2.1 v_18.2.2.2.2 l1 l2 l3 c1 c2 c3 r1 r2 r3 f1 f2 f3)) [0, 1, 2, 3, 4, 5, 6, 7, 8, 9, 10, 11, 12, 13, 14, 15, 16, 17, 18] (by decide) rfl) rfl rfl) rfl rfl hl.1 rfl (lv_room (Nat.le_of_ble_eq_true rfl)) dX3_bindSpace_25 ⟨Nat.le_of_ble_eq_true rfl, Nat.le_of_ble_eq_true rfl⟩) hP hD hS hA [0, 1, 2, 3, 4, 5, 6, 7, 8, 9, 10, 11, 12, 13, 14, 15, 16, 17, 18] [] rfl rfl (by decide) (by decide) (fun H locs  hP hD hS => ?_)
    have hP : va_P (gD G) vwCl (wMk G h0 p0 ax ay az s0 sa sb sc se b0 ba bb bc be t1 t2 t3 t4 fi ps X Y Z ss SA SB SC SE v_19.1 v_19.2.1 v_19.2.2.1 v_19.2.2.2.1 v_19.2.2.2.2 l1 l2 l3 c1 c2 c3 r1 r2 r3 f1 f2 f3) H := hP.sub [0, 1, 2, 3, 4, 5, 6, 7, 8, 9, 10, 11, 12, 13, 14, 15, 16, 17, 18] rfl
    have hD : va_D A (wMk G h0 p0 ax ay az s0 sa sb sc se b0 ba bb bc be t1 t2 t3 t4 fi ps X Y Z ss SA SB SC SE v_19.1 v_19.2.1 v_19.2.2.1 v_19.2.2.2.1 v_19.2.2.2.2 l1 l2 l3 c1 c2 c3 r1 r2 r3 f1 f2 f3) := hD.sub [0, 1, 2, 3, 4, 5, 6, 7, 8, 9, 10, 11, 12, 13, 14, 15, 16, 17, 18] (by decide) rfl
    refine lv_goto (tgt := 216) hx hb dX3_bindSpace_28 (by decide) ?_
    exact W.vret hx hb hr (fun t ht hW => ⟨⟨(v_19.1, v_19.2.1, v_19.2.2.1, v_19.2.2.2.1, v_19.2.2.2.2, l1, l2, l3, r1, r2, r3), rfl, so_e hF, qW_mk ht hP hK hW hD⟩, hS.F ht⟩) hS.2.2 dX3_bindSpace_216
def JX3_trySide_120 (ps : Int32) (X : Nat → Int32) (Y : Nat → Int32) (Z : Nat → Int32)  (a1 : Int32) (mss : Int32) (mSA : Nat → Int32) (mSB : Nat → Int32) (mSC : Nat → Int32) (mSE : Nat → Int32) (mf1 : Int32) (mf2 : Int32) (mf3 : Int32) : Option (Int32 × (Nat → Int32) × (Nat → Int32) × (Nat → Int32) × (Nat → Int32) × Int32 × Int32 × Int32) :=
  (bd (fX6_shorten mf1 mf2 mf3) (fun v_7 => (bd (fX6_at 121 v_7.1 v_7.2.1 v_7.2.2 X Y Z a1) (fun v_8 => (bd (fX1_putInOrder 80 mss mSA mSB mSC mSE v_7.1 v_7.2.1 v_7.2.2 v_8) (fun v_9 => (some (v_9.1, v_9.2.1, v_9.2.2.1, v_9.2.2.2.1, v_9.2.2.2.2, v_7.1, v_7.2.1, v_7.2.2))))))))
def JX3_trySide_103 (ps : Int32) (X : Nat → Int32) (Y : Nat → Int32) (Z : Nat → Int32) (k32 : Int32 → Int32 → Int32 → Int32 → Int32 → Int32 → (Nat → Int32) → (Nat → Int32) → (Nat → Int32) → (Nat → Int32) → Int32 → Int32 → Int32 → Option (Int32 × (Nat → Int32) × (Nat → Int32) × (Nat → Int32) × (Nat → Int32) × Int32 × Int32 × Int32)) (a1 : Int32) (a2 : Int32) (a3 : Int32) (a4 : Int32) (a5 : Int32) (mss : Int32) (mSA : Nat → Int32) (mSB : Nat → Int32) (mSC : Nat → Int32) (mSE : Nat → Int32) (mf1 : Int32) (mf2 : Int32) (mf3 : Int32) : Option (Int32 × (Nat → Int32) × (Nat → Int32) × (Nat → Int32) × (Nat → Int32) × Int32 × Int32 × Int32) :=
  (k32 a1 a2 a3 a4 (a5 + 1) mss mSA mSB mSC mSE mf1 mf2 mf3)
def JX3_trySide_91 (ps : Int32) (X : Nat → Int32) (Y : Nat → Int32) (Z : Nat → Int32) (k32 : Int32 → Int32 → Int32 → Int32 → Int32 → Int32 → (Nat → Int32) → (Nat → Int32) → (Nat → Int32) → (Nat → Int32) → Int32 → Int32 → Int32 → Option (Int32 × (Nat → Int32) × (Nat → Int32) × (Nat → Int32) × (Nat → Int32) × Int32 × Int32 × Int32)) (a1 : Int32) (a2 : Int32) (a3 : Int32) (a5 : Int32) (t0 : Int32) (mss : Int32) (mSA : Nat → Int32) (mSB : Nat → Int32) (mSC : Nat → Int32) (mSE : Nat → Int32) (mf1 : Int32) (mf2 : Int32) (mf3 : Int32) : Option (Int32 × (Nat → Int32) × (Nat → Int32) × (Nat → Int32) × (Nat → Int32) × Int32 × Int32 × Int32) :=
  (if a3 = 0 then (JX3_trySide_103 ps X Y Z k32 a1 a2 a3 t0 a5 mss mSA mSB mSC mSE mf1 mf2 mf3) else (if t0 = 0 then (JX3_trySide_103 ps X Y Z k32 a1 a2 a3 t0 a5 mss mSA mSB mSC mSE mf1 mf2 mf3) else (some (mss, mSA, mSB, mSC, mSE, mf1, mf2, mf3))))
def JX3_trySide_86 (ps : Int32) (X : Nat → Int32) (Y : Nat → Int32) (Z : Nat → Int32) (k32 : Int32 → Int32 → Int32 → Int32 → Int32 → Int32 → (Nat → Int32) → (Nat → Int32) → (Nat → Int32) → (Nat → Int32) → Int32 → Int32 → Int32 → Option (Int32 × (Nat → Int32) × (Nat → Int32) × (Nat → Int32) × (Nat → Int32) × Int32 × Int32 × Int32)) (a1 : Int32) (a2 : Int32) (a3 : Int32) (a5 : Int32) (mss : Int32) (mSA : Nat → Int32) (mSB : Nat → Int32) (mSC : Nat → Int32) (mSE : Nat → Int32) (mf1 : Int32) (mf2 : Int32) (mf3 : Int32) : Option (Int32 × (Nat → Int32) × (Nat → Int32) × (Nat → Int32) × (Nat → Int32) × Int32 × Int32 × Int32) :=
  (JX3_trySide_91 ps X Y Z k32 a1 a2 a3 a5 1 mss mSA mSB mSC mSE mf1 mf2 mf3)
def JX3_trySide_74 (ps : Int32) (X : Nat → Int32) (Y : Nat → Int32) (Z : Nat → Int32) (k32 : Int32 → Int32 → Int32 → Int32 → Int32 → Int32 → (Nat → Int32) → (Nat → Int32) → (Nat → Int32) → (Nat → Int32) → Int32 → Int32 → Int32 → Option (Int32 × (Nat → Int32) × (Nat → Int32) × (Nat → Int32) × (Nat → Int32) × Int32 × Int32 × Int32)) (a1 : Int32) (a2 : Int32) (a4 : Int32) (a5 : Int32) (a6 : Int32) (t0 : Int32) (mss : Int32) (mSA : Nat → Int32) (mSB : Nat → Int32) (mSC : Nat → Int32) (mSE : Nat → Int32) (mf1 : Int32) (mf2 : Int32) (mf3 : Int32) : Option (Int32 × (Nat → Int32) × (Nat → Int32) × (Nat → Int32) × (Nat → Int32) × Int32 × Int32 × Int32) :=
  (if a4 = 0 then (if a2 ≤ a6 then (JX3_trySide_91 ps X Y Z k32 a1 a2 t0 a5 0 mss mSA mSB mSC mSE mf1 mf2 mf3) else (JX3_trySide_86 ps X Y Z k32 a1 a2 t0 a5 mss mSA mSB mSC mSE mf1 mf2 mf3)) else (JX3_trySide_86 ps X Y Z k32 a1 a2 t0 a5 mss mSA mSB mSC mSE mf1 mf2 mf3))
def JX3_trySide_69 (ps : Int32) (X : Nat → Int32) (Y : Nat → Int32) (Z : Nat → Int32) (k32 : Int32 → Int32 → Int32 → Int32 → Int32 → Int32 → (Nat → Int32) → (Nat → Int32) → (Nat → Int32) → (Nat → Int32) → Int32 → Int32 → Int32 → Option (Int32 × (Nat → Int32) × (Nat → Int32) × (Nat → Int32) × (Nat → Int32) × Int32 × Int32 × Int32)) (a1 : Int32) (a2 : Int32) (a4 : Int32) (a5 : Int32) (a6 : Int32) (mss : Int32) (mSA : Nat → Int32) (mSB : Nat → Int32) (mSC : Nat → Int32) (mSE : Nat → Int32) (mf1 : Int32) (mf2 : Int32) (mf3 : Int32) : Option (Int32 × (Nat → Int32) × (Nat → Int32) × (Nat → Int32) × (Nat → Int32) × Int32 × Int32 × Int32) :=
  (JX3_trySide_74 ps X Y Z k32 a1 a2 a4 a5 a6 1 mss mSA mSB mSC mSE mf1 mf2 mf3)
def LX3_trySide_32 (ps : Int32) (X : Nat → Int32) (Y : Nat → Int32) (Z : Nat → Int32)  : Nat → Int32 → Int32 → Int32 → Int32 → Int32 → Int32 → (Nat → Int32) → (Nat → Int32) → (Nat → Int32) → (Nat → Int32) → Int32 → Int32 → Int32 → Option (Int32 × (Nat → Int32) × (Nat → Int32) × (Nat → Int32) × (Nat → Int32) × Int32 × Int32 × Int32)
  | 0, _, _, _, _, _, _, _, _, _, _, _, _, _ => none
  | k + 1, a1, a2, a3, a4, a5, mss, mSA, mSB, mSC, mSE, mf1, mf2, mf3 =>
  (if ps ≤ a5 then (if a3 = 0 then (JX3_trySide_120 ps X Y Z a1 mss mSA mSB mSC mSE mf1 mf2 mf3) else (bd (fX6_flip mf1 mf2 mf3) (fun v_10 => (JX3_trySide_120 ps X Y Z a1 mss mSA mSB mSC mSE v_10.1 v_10.2.1 v_10.2.2)))) else (bd (fX6_at 121 mf1 mf2 mf3 X Y Z a5) (fun v_11 => (if a3 = 0 then (if v_11 ≤ a2 then (JX3_trySide_74 ps X Y Z (LX3_trySide_32 ps X Y Z k) a1 a2 a4 a5 v_11 0 mss mSA mSB mSC mSE mf1 mf2 mf3) else (JX3_trySide_69 ps X Y Z (LX3_trySide_32 ps X Y Z k) a1 a2 a4 a5 v_11 mss mSA mSB mSC mSE mf1 mf2 mf3)) else (JX3_trySide_69 ps X Y Z (LX3_trySide_32 ps X Y Z k) a1 a2 a4 a5 v_11 mss mSA mSB mSC mSE mf1 mf2 mf3)))))
def fX3_trySide (ps : Int32) (X : Nat → Int32) (Y : Nat → Int32) (Z : Nat → Int32) (ss : Int32) (SA : Nat → Int32) (SB : Nat → Int32) (SC : Nat → Int32) (SE : Nat → Int32) (f1 : Int32) (f2 : Int32) (f3 : Int32) (p1 : Int32) : Option (Int32 × (Nat → Int32) × (Nat → Int32) × (Nat → Int32) × (Nat → Int32) × Int32 × Int32 × Int32) :=
  (bd (fX6_isNought f1 f2 f3) (fun v_1 => (if v_1 = 0 then (bd (fX6_at 121 f1 f2 f3 X Y Z p1) (fun v_4 => (LX3_trySide_32 ps X Y Z FU p1 v_4 0 0 0 ss SA SB SC SE f1 f2 f3))) else (some (ss, SA, SB, SC, SE, f1, f2, f3)))))
abbrev rX3_trySide : Room := { frames := 2, cells := 0, slots := 0, locals := 49 }
set_option maxHeartbeats 40000000 in
set_option maxRecDepth 100000 in
theorem kX3_trySide (l : Launch) (G : GT) (h0 p0 ax ay az s0 sa sb sc se b0 ba bb bc be t1 t2 t3 t4 : Nat) (sz : Nat) (fi : Int32) (ps : Int32) (X : Nat → Int32) (Y : Nat → Int32) (Z : Nat → Int32) (ss : Int32) (SA : Nat → Int32) (SB : Nat → Int32) (SC : Nat → Int32) (SE : Nat → Int32) (bs : Int32) (BA : Nat → Int32) (BB : Nat → Int32) (BC : Nat → Int32) (BD : Nat → Int32) (l1 : Int32) (l2 : Int32) (l3 : Int32) (c1 : Int32) (c2 : Int32) (c3 : Int32) (r1 : Int32) (r2 : Int32) (r3 : Int32) (f1 : Int32) (f2 : Int32) (f3 : Int32) (p1 : Int32) (res : Int32 × (Nat → Int32) × (Nat → Int32) × (Nat → Int32) × (Nat → Int32) × Int32 × Int32 × Int32) (hF : fX3_trySide ps X Y Z ss SA SB SC SE f1 f2 f3 p1 = some res) : Met l yX3_trySide wsX3_trySide rX3_trySide (va_Pc [.ref h0, .int p1] (pW G sz (wMk G h0 p0 ax ay az s0 sa sb sc se b0 ba bb bc be t1 t2 t3 t4 fi ps X Y Z ss SA SB SC SE bs BA BB BC BD l1 l2 l3 c1 c2 c3 r1 r2 r3 f1 f2 f3))) (va_Qv (fun (u : Int32 × (Nat → Int32) × (Nat → Int32) × (Nat → Int32) × (Nat → Int32) × Int32 × Int32 × Int32) => u = res) (fun u t => qW G (va_A (wMk G h0 p0 ax ay az s0 sa sb sc se b0 ba bb bc be t1 t2 t3 t4 fi ps X Y Z ss SA SB SC SE bs BA BB BC BD l1 l2 l3 c1 c2 c3 r1 r2 r3 f1 f2 f3) sz) (wMk G h0 p0 ax ay az s0 sa sb sc se b0 ba bb bc be t1 t2 t3 t4 fi ps X Y Z u.1 u.2.1 u.2.2.1 u.2.2.2.1 u.2.2.2.2.1 bs BA BB BC BD l1 l2 l3 c1 c2 c3 r1 r2 r3 u.2.2.2.2.2.1 u.2.2.2.2.2.2.1 u.2.2.2.2.2.2.2) t) (va_A (wMk G h0 p0 ax ay az s0 sa sb sc se b0 ba bb bc be t1 t2 t3 t4 fi ps X Y Z ss SA SB SC SE bs BA BB BC BD l1 l2 l3 c1 c2 c3 r1 r2 r3 f1 f2 f3) sz)) 0 0 (va_A (wMk G h0 p0 ax ay az s0 sa sb sc se b0 ba bb bc be t1 t2 t3 t4 fi ps X Y Z ss SA SB SC SE bs BA BB BC BD l1 l2 l3 c1 c2 c3 r1 r2 r3 f1 f2 f3) sz) := by
  refine Met.ofW (cc := cX3_trySide) (maxL := 7) (ret := none) (by decide) rfl ?_
  intro p e s m args below meth c s₁ B hml hv
  obtain ⟨rfl, hsz, hP, hK, hD0⟩ := hv
  have hx := B.exec
  have hb := B.bytes
  have hr := B.returns
  have hts := atoms_spec (ws := wsX3_trySide) B.pre
  have hown : s.vm.findClass RX3 = some m.cls := findClass_of_methodNamed B.named
  have hlocks := B.notSynchronized
  subst hsz
  have hD := hD0.self (sz := s.heap.size)
  generalize hAe : va_A (wMk G h0 p0 ax ay az s0 sa sb sc se b0 ba bb bc be t1 t2 t3 t4 fi ps X Y Z ss SA SB SC SE bs BA BB BC BD l1 l2 l3 c1 c2 c3 r1 r2 r3 f1 f2 f3) s.heap.size = A at hD ⊢
  have hA : ∀ q : Nat, s.heap.size ≤ q → A q := fun q h => by rw [← hAe]; exact Or.inr h
  have hS : va_S A s.heap s.heap [] := va_S.rf
  have hin3 : ∀ w ∈ u_ws RX3 TX3 8, w ∈ wsX3_trySide := by decide +kernel
  have hfl43 := hts (.fieldLink RX3 43 "SwellBodies$Maker" "facing" "LSwellBodies$Step;") (by decide +kernel)
  have hfl14 := hts (.fieldLink RX3 14 "SwellBodies$Maker" "points" "LSwellBodies$Points;") (by decide +kernel)
  have hin4 : ∀ w ∈ u_ws RX4 TX4 4, w ∈ wsX3_trySide := by decide +kernel
  have hfl46 := hts (.fieldLink RX3 46 "SwellBodies$Points" "size" "I") (by decide +kernel)
  have hfl23 := hts (.fieldLink RX3 23 "SwellBodies$Maker" "sides" "LSwellBodies$Conditions;") (by decide +kernel)
  have hl := lv_entry ([.ref h0, .int p1]) (n := 7) (Nat.le_of_ble_eq_true rfl)
  rw [lg_entry_eq]
  generalize (lg_sl ([.ref h0, .int p1]) ++ List.replicate (7 - (lg_sl ([.ref h0, .int p1])).length) Slot.unset).toArray = ls at hl ⊢
  have hl : lv_has ls 7 [(0, .ref h0), (1, .int p1)] := hl
  have hJ120 : ∀ (a1 : Int32) (mss : Int32) (mSA : Nat → Int32) (mSB : Nat → Int32) (mSC : Nat → Int32) (mSE : Nat → Int32) (mf1 : Int32) (mf2 : Int32) (mf3 : Int32) (H : Heap) (locs : List Loc) (ls : Array Slot), JX3_trySide_120 ps X Y Z a1 mss mSA mSB mSC mSE mf1 mf2 mf3 = some res → va_P (gD G) vwCl (wMk G h0 p0 ax ay az s0 sa sb sc se b0 ba bb bc be t1 t2 t3 t4 fi ps X Y Z mss mSA mSB mSC mSE bs BA BB BC BD l1 l2 l3 c1 c2 c3 r1 r2 r3 mf1 mf2 mf3) H → va_D A (wMk G h0 p0 ax ay az s0 sa sb sc se b0 ba bb bc be t1 t2 t3 t4 fi ps X Y Z mss mSA mSB mSC mSE bs BA BB BC BD l1 l2 l3 c1 c2 c3 r1 r2 r3 mf1 mf2 mf3) → va_S A s.heap H locs → lv_has ls 7 [(0, .ref h0), (1, .int a1)] → W p l e (headSpec wsX3_trySide rX3_trySide).room s m ([.ref h0, .int p1] : List Value).toArray below meth c H locs 0 0 (MQ below (va_Qv (fun (u : Int32 × (Nat → Int32) × (Nat → Int32) × (Nat → Int32) × (Nat → Int32) × Int32 × Int32 × Int32) => u = res) (fun u t => qW G A (wMk G h0 p0 ax ay az s0 sa sb sc se b0 ba bb bc be t1 t2 t3 t4 fi ps X Y Z u.1 u.2.1 u.2.2.1 u.2.2.2.1 u.2.2.2.2.1 bs BA BB BC BD l1 l2 l3 c1 c2 c3 r1 r2 r3 u.2.2.2.2.2.1 u.2.2.2.2.2.2.1 u.2.2.2.2.2.2.2) t) A) ([.ref h0, .int p1] : List Value).toArray s 0 0 A) (F0 m 120 ls []) := by
    intro a1 mss mSA mSB mSC mSE mf1 mf2 mf3 H locs ls hF hP hD hS hl
    unfold JX3_trySide_120 at hF
    refine lv_aload_n hx hb dX3_trySide_120 rfl (lv_at hl 0 rfl) ?_
    refine va_get (ci := 3) (v := .ref t4) (C := RX3) (T := TX3) (N := 8) hx hb hts hin3 hown hK hP 0 rfl rfl 6 (by decide) hfl43 (fun _ h9 => h9) rfl dX3_trySide_121 ?_
    obtain ⟨v_7, hv_7, hF⟩ := bd_s hF
    refine rw_ve (wf := (fun (u : Int32 × Int32 × Int32) => (wStp G t4 u.1 u.2.1 u.2.2))) (wr := [(h0, .inr (3, [.ref p0, .ref s0, .ref b0, .ref t1, .ref t2, .ref t3, .ref t4, .int fi])), (p0, .inr (4, [.ref ax, .ref ay, .ref az, .int ps])), (ax, .inl (gI G, 121, .inl X)), (ay, .inl (gI G, 121, .inl Y)), (az, .inl (gI G, 121, .inl Z)), (s0, .inr (1, [.ref sa, .ref sb, .ref sc, .ref se, .int mss])), (sa, .inl (gI G, 80, .inl mSA)), (sb, .inl (gI G, 80, .inl mSB)), (sc, .inl (gI G, 80, .inl mSC)), (se, .inl (gI G, 80, .inl mSE)), (b0, .inr (1, [.ref ba, .ref bb, .ref bc, .ref be, .int bs])), (ba, .inl (gI G, 3, .inl BA)), (bb, .inl (gI G, 3, .inl BB)), (bc, .inl (gI G, 3, .inl BC)), (be, .inl (gI G, 3, .inl BD)), (t1, .inr (6, [.int l1, .int l2, .int l3])), (t2, .inr (6, [.int c1, .int c2, .int c3])), (t3, .inr (6, [.int r1, .int r2, .int r3]))]) (va_runV (As := []) (rest := []) ⟨hx, hb, hml, hown, hts⟩ (kX6_shorten l G t4 H.size mf1 mf2 mf3 v_7 hv_7) (cwV 0 hts gX3_trySide_X6_shorten rfl rfl rfl (by decide +kernel) ⟨Nat.le_of_ble_eq_true rfl, Nat.le_of_ble_eq_true rfl⟩) (pvW (q0 := 0) 6 hK (hP.sub (ws' := (wStp G t4 mf1 mf2 mf3)) [18] rfl) (hD.sub (ws' := (wStp G t4 mf1 mf2 mf3)) [18] (by decide) rfl) rfl rfl) rfl rfl hl.1 rfl (lv_room (Nat.le_of_ble_eq_true rfl)) dX3_trySide_124 ⟨Nat.le_of_ble_eq_true rfl, Nat.le_of_ble_eq_true rfl⟩) hP hD hS hA [18] [0, 1, 2, 3, 4, 5, 6, 7, 8, 9, 10, 11, 12, 13, 14, 15, 16, 17] rfl rfl (by decide) (by decide) (fun H locs  hP hD hS => ?_)
    have hP : va_P (gD G) vwCl (wMk G h0 p0 ax ay az s0 sa sb sc se b0 ba bb bc be t1 t2 t3 t4 fi ps X Y Z mss mSA mSB mSC mSE bs BA BB BC BD l1 l2 l3 c1 c2 c3 r1 r2 r3 v_7.1 v_7.2.1 v_7.2.2) H := hP.sub [0, 1, 2, 3, 4, 5, 6, 7, 8, 9, 10, 11, 12, 13, 14, 15, 16, 17, 18] rfl
    have hD : va_D A (wMk G h0 p0 ax ay az s0 sa sb sc se b0 ba bb bc be t1 t2 t3 t4 fi ps X Y Z mss mSA mSB mSC mSE bs BA BB BC BD l1 l2 l3 c1 c2 c3 r1 r2 r3 v_7.1 v_7.2.1 v_7.2.2) := hD.sub [0, 1, 2, 3, 4, 5, 6, 7, 8, 9, 10, 11, 12, 13, 14, 15, 16, 17, 18] (by decide) rfl
    refine lv_aload_n hx hb dX3_trySide_127 rfl (lv_at hl 0 rfl) ?_
    refine va_get (ci := 3) (v := .ref s0) (C := RX3) (T := TX3) (N := 8) hx hb hts hin3 hown hK hP 0 rfl rfl 1 (by decide) hfl23 (fun _ h9 => h9) rfl dX3_trySide_128 ?_
    refine lv_aload_n hx hb dX3_trySide_131 rfl (lv_at hl 0 rfl) ?_
    refine va_get (ci := 3) (v := .ref t4) (C := RX3) (T := TX3) (N := 8) hx hb hts hin3 hown hK hP 0 rfl rfl 6 (by decide) hfl43 (fun _ h9 => h9) rfl dX3_trySide_132 ?_
    refine lv_aload_n hx hb dX3_trySide_135 rfl (lv_at hl 0 rfl) ?_
    refine va_get (ci := 3) (v := .ref t4) (C := RX3) (T := TX3) (N := 8) hx hb hts hin3 hown hK hP 0 rfl rfl 6 (by decide) hfl43 (fun _ h9 => h9) rfl dX3_trySide_136 ?_
    refine lv_aload_n hx hb dX3_trySide_139 rfl (lv_at hl 0 rfl) ?_
    refine va_get (ci := 3) (v := .ref p0) (C := RX3) (T := TX3) (N := 8) hx hb hts hin3 hown hK hP 0 rfl rfl 0 (by decide) hfl14 (fun _ h9 => h9) rfl dX3_trySide_140 ?_
    refine lv_iload_n hx hb dX3_trySide_143 rfl (lv_at hl 1 rfl) ?_
    obtain ⟨v_8, hv_8, hF⟩ := bd_s hF
    refine ro_ie (va_runV (As := [.ref p0, .int a1]) (rest := [.ref t4, .ref s0]) ⟨hx, hb, hml, hown, hts⟩ (kX6_at l G t4 p0 ax ay az 121 v_7.1 v_7.2.1 v_7.2.2 ps X Y Z a1 v_8 hv_8) (cwV 2 hts gX3_trySide_X6_at rfl rfl rfl (by decide +kernel) ⟨Nat.le_of_ble_eq_true rfl, Nat.le_of_ble_eq_true rfl⟩) (pvR (q0 := 0) 6 hK (hP.sub (ws' := (wStpPt G t4 p0 ax ay az 121 v_7.1 v_7.2.1 v_7.2.2 ps X Y Z)) [18, 1, 2, 3, 4] rfl) rfl rfl) rfl rfl hl.1 rfl (lv_room (Nat.le_of_ble_eq_true rfl)) dX3_trySide_144 ⟨Nat.le_of_ble_eq_true rfl, Nat.le_of_ble_eq_true rfl⟩) ?_
    obtain ⟨v_9, hv_9, hF⟩ := bd_s hF
    refine rw_ve (wf := (fun (u : Int32 × (Nat → Int32) × (Nat → Int32) × (Nat → Int32) × (Nat → Int32)) => (wCndSt G s0 sa sb sc se t4 80 u.1 u.2.1 u.2.2.1 u.2.2.2.1 u.2.2.2.2 v_7.1 v_7.2.1 v_7.2.2))) (wr := [(h0, .inr (3, [.ref p0, .ref s0, .ref b0, .ref t1, .ref t2, .ref t3, .ref t4, .int fi])), (p0, .inr (4, [.ref ax, .ref ay, .ref az, .int ps])), (ax, .inl (gI G, 121, .inl X)), (ay, .inl (gI G, 121, .inl Y)), (az, .inl (gI G, 121, .inl Z)), (b0, .inr (1, [.ref ba, .ref bb, .ref bc, .ref be, .int bs])), (ba, .inl (gI G, 3, .inl BA)), (bb, .inl (gI G, 3, .inl BB)), (bc, .inl (gI G, 3, .inl BC)), (be, .inl (gI G, 3, .inl BD)), (t1, .inr (6, [.int l1, .int l2, .int l3])), (t2, .inr (6, [.int c1, .int c2, .int c3])), (t3, .inr (6, [.int r1, .int r2, .int r3]))]) (va_runV (As := [.ref t4, .int v_8]) (rest := []) ⟨hx, hb, hml, hown, hts⟩ (kX1_putInOrder l G s0 sa sb sc se t4 H.size 80 mss mSA mSB mSC mSE v_7.1 v_7.2.1 v_7.2.2 v_8 v_9 hv_9) (cwV 2 hts gX3_trySide_X1_putInOrder rfl rfl rfl (by decide +kernel) ⟨Nat.le_of_ble_eq_true rfl, Nat.le_of_ble_eq_true rfl⟩) (pvW (q0 := 0) 1 hK (hP.sub (ws' := (wCndSt G s0 sa sb sc se t4 80 mss mSA mSB mSC mSE v_7.1 v_7.2.1 v_7.2.2)) [5, 6, 7, 8, 9, 18] rfl) (hD.sub (ws' := (wCndSt G s0 sa sb sc se t4 80 mss mSA mSB mSC mSE v_7.1 v_7.2.1 v_7.2.2)) [5, 6, 7, 8, 9, 18] (by decide) rfl) rfl rfl) rfl rfl hl.1 rfl (lv_room (Nat.le_of_ble_eq_true rfl)) dX3_trySide_147 ⟨Nat.le_of_ble_eq_true rfl, Nat.le_of_ble_eq_true rfl⟩) hP hD hS hA [5, 6, 7, 8, 9, 18] [0, 1, 2, 3, 4, 10, 11, 12, 13, 14, 15, 16, 17] rfl rfl (by decide) (by decide) (fun H locs  hP hD hS => ?_)
    have hP : va_P (gD G) vwCl (wMk G h0 p0 ax ay az s0 sa sb sc se b0 ba bb bc be t1 t2 t3 t4 fi ps X Y Z v_9.1 v_9.2.1 v_9.2.2.1 v_9.2.2.2.1 v_9.2.2.2.2 bs BA BB BC BD l1 l2 l3 c1 c2 c3 r1 r2 r3 v_7.1 v_7.2.1 v_7.2.2) H := hP.sub [0, 1, 2, 3, 4, 13, 14, 15, 16, 17, 5, 6, 7, 8, 9, 10, 11, 12, 18] rfl
    have hD : va_D A (wMk G h0 p0 ax ay az s0 sa sb sc se b0 ba bb bc be t1 t2 t3 t4 fi ps X Y Z v_9.1 v_9.2.1 v_9.2.2.1 v_9.2.2.2.1 v_9.2.2.2.2 bs BA BB BC BD l1 l2 l3 c1 c2 c3 r1 r2 r3 v_7.1 v_7.2.1 v_7.2.2) := hD.sub [0, 1, 2, 3, 4, 13, 14, 15, 16, 17, 5, 6, 7, 8, 9, 10, 11, 12, 18] (by decide) rfl
    exact W.vret hx hb hr (fun t ht hW => ⟨⟨(v_9.1, v_9.2.1, v_9.2.2.1, v_9.2.2.2.1, v_9.2.2.2.2, v_7.1, v_7.2.1, v_7.2.2), rfl, so_e hF, qW_mk ht hP hK hW hD⟩, hS.F ht⟩) hS.2.2 dX3_trySide_150
  have hJ103 : ∀ (k32 : Int32 → Int32 → Int32 → Int32 → Int32 → Int32 → (Nat → Int32) → (Nat → Int32) → (Nat → Int32) → (Nat → Int32) → Int32 → Int32 → Int32 → Option (Int32 × (Nat → Int32) × (Nat → Int32) × (Nat → Int32) × (Nat → Int32) × Int32 × Int32 × Int32)), (∀ (a1 : Int32) (a2 : Int32) (a3 : Int32) (a4 : Int32) (a5 : Int32) (mss : Int32) (mSA : Nat → Int32) (mSB : Nat → Int32) (mSC : Nat → Int32) (mSE : Nat → Int32) (mf1 : Int32) (mf2 : Int32) (mf3 : Int32) (H : Heap) (locs : List Loc) (ls : Array Slot), k32 a1 a2 a3 a4 a5 mss mSA mSB mSC mSE mf1 mf2 mf3 = some res → va_P (gD G) vwCl (wMk G h0 p0 ax ay az s0 sa sb sc se b0 ba bb bc be t1 t2 t3 t4 fi ps X Y Z mss mSA mSB mSC mSE bs BA BB BC BD l1 l2 l3 c1 c2 c3 r1 r2 r3 mf1 mf2 mf3) H → va_D A (wMk G h0 p0 ax ay az s0 sa sb sc se b0 ba bb bc be t1 t2 t3 t4 fi ps X Y Z mss mSA mSB mSC mSE bs BA BB BC BD l1 l2 l3 c1 c2 c3 r1 r2 r3 mf1 mf2 mf3) → va_S A s.heap H locs → lv_has ls 7 [(0, .ref h0), (1, .int a1), (2, .int a2), (3, .int a3), (4, .int a4), (5, .int a5)] → W p l e (headSpec wsX3_trySide rX3_trySide).room s m ([.ref h0, .int p1] : List Value).toArray below meth c H locs 0 0 (MQ below (va_Qv (fun (u : Int32 × (Nat → Int32) × (Nat → Int32) × (Nat → Int32) × (Nat → Int32) × Int32 × Int32 × Int32) => u = res) (fun u t => qW G A (wMk G h0 p0 ax ay az s0 sa sb sc se b0 ba bb bc be t1 t2 t3 t4 fi ps X Y Z u.1 u.2.1 u.2.2.1 u.2.2.2.1 u.2.2.2.2.1 bs BA BB BC BD l1 l2 l3 c1 c2 c3 r1 r2 r3 u.2.2.2.2.2.1 u.2.2.2.2.2.2.1 u.2.2.2.2.2.2.2) t) A) ([.ref h0, .int p1] : List Value).toArray s 0 0 A) (F0 m 32 ls [])) → ∀ (a1 : Int32) (a2 : Int32) (a3 : Int32) (a4 : Int32) (a5 : Int32) (mss : Int32) (mSA : Nat → Int32) (mSB : Nat → Int32) (mSC : Nat → Int32) (mSE : Nat → Int32) (mf1 : Int32) (mf2 : Int32) (mf3 : Int32) (H : Heap) (locs : List Loc) (ls : Array Slot), JX3_trySide_103 ps X Y Z k32 a1 a2 a3 a4 a5 mss mSA mSB mSC mSE mf1 mf2 mf3 = some res → va_P (gD G) vwCl (wMk G h0 p0 ax ay az s0 sa sb sc se b0 ba bb bc be t1 t2 t3 t4 fi ps X Y Z mss mSA mSB mSC mSE bs BA BB BC BD l1 l2 l3 c1 c2 c3 r1 r2 r3 mf1 mf2 mf3) H → va_D A (wMk G h0 p0 ax ay az s0 sa sb sc se b0 ba bb bc be t1 t2 t3 t4 fi ps X Y Z mss mSA mSB mSC mSE bs BA BB BC BD l1 l2 l3 c1 c2 c3 r1 r2 r3 mf1 mf2 mf3) → va_S A s.heap H locs → lv_has ls 7 [(0, .ref h0), (1, .int a1), (2, .int a2), (3, .int a3), (4, .int a4), (5, .int a5)] → W p l e (headSpec wsX3_trySide rX3_trySide).room s m ([.ref h0, .int p1] : List Value).toArray below meth c H locs 0 0 (MQ below (va_Qv (fun (u : Int32 × (Nat → Int32) × (Nat → Int32) × (Nat → Int32) × (Nat → Int32) × Int32 × Int32 × Int32) => u = res) (fun u t => qW G A (wMk G h0 p0 ax ay az s0 sa sb sc se b0 ba bb bc be t1 t2 t3 t4 fi ps X Y Z u.1 u.2.1 u.2.2.1 u.2.2.2.1 u.2.2.2.2.1 bs BA BB BC BD l1 l2 l3 c1 c2 c3 r1 r2 r3 u.2.2.2.2.2.1 u.2.2.2.2.2.2.1 u.2.2.2.2.2.2.2) t) A) ([.ref h0, .int p1] : List Value).toArray s 0 0 A) (F0 m 103 ls []) := by
    intro k32 hk32
    intro a1 a2 a3 a4 a5 mss mSA mSB mSC mSE mf1 mf2 mf3 H locs ls hF hP hD hS hl
    unfold JX3_trySide_103 at hF
    refine lv_iinc (v := a5 + 1) (lv' := [(5, .int (a5 + 1)), (0, .ref h0), (1, .int a1), (2, .int a2), (3, .int a3), (4, .int a4)]) hx hb dX3_trySide_103 hl (k := 5) rfl rfl (by decide) rfl (fun ls hl => ?_)
    refine lv_goto (tgt := 32) hx hb dX3_trySide_106 (by decide) ?_
    exact hk32 a1 a2 a3 a4 (a5 + 1) mss mSA mSB mSC mSE mf1 mf2 mf3 _ _ _ hF hP hD hS (lv_sub hl [1, 2, 3, 4, 5, 0] rfl)
  have hJ91 : ∀ (k32 : Int32 → Int32 → Int32 → Int32 → Int32 → Int32 → (Nat → Int32) → (Nat → Int32) → (Nat → Int32) → (Nat → Int32) → Int32 → Int32 → Int32 → Option (Int32 × (Nat → Int32) × (Nat → Int32) × (Nat → Int32) × (Nat → Int32) × Int32 × Int32 × Int32)), (∀ (a1 : Int32) (a2 : Int32) (a3 : Int32) (a4 : Int32) (a5 : Int32) (mss : Int32) (mSA : Nat → Int32) (mSB : Nat → Int32) (mSC : Nat → Int32) (mSE : Nat → Int32) (mf1 : Int32) (mf2 : Int32) (mf3 : Int32) (H : Heap) (locs : List Loc) (ls : Array Slot), k32 a1 a2 a3 a4 a5 mss mSA mSB mSC mSE mf1 mf2 mf3 = some res → va_P (gD G) vwCl (wMk G h0 p0 ax ay az s0 sa sb sc se b0 ba bb bc be t1 t2 t3 t4 fi ps X Y Z mss mSA mSB mSC mSE bs BA BB BC BD l1 l2 l3 c1 c2 c3 r1 r2 r3 mf1 mf2 mf3) H → va_D A (wMk G h0 p0 ax ay az s0 sa sb sc se b0 ba bb bc be t1 t2 t3 t4 fi ps X Y Z mss mSA mSB mSC mSE bs BA BB BC BD l1 l2 l3 c1 c2 c3 r1 r2 r3 mf1 mf2 mf3) → va_S A s.heap H locs → lv_has ls 7 [(0, .ref h0), (1, .int a1), (2, .int a2), (3, .int a3), (4, .int a4), (5, .int a5)] → W p l e (headSpec wsX3_trySide rX3_trySide).room s m ([.ref h0, .int p1] : List Value).toArray below meth c H locs 0 0 (MQ below (va_Qv (fun (u : Int32 × (Nat → Int32) × (Nat → Int32) × (Nat → Int32) × (Nat → Int32) × Int32 × Int32 × Int32) => u = res) (fun u t => qW G A (wMk G h0 p0 ax ay az s0 sa sb sc se b0 ba bb bc be t1 t2 t3 t4 fi ps X Y Z u.1 u.2.1 u.2.2.1 u.2.2.2.1 u.2.2.2.2.1 bs BA BB BC BD l1 l2 l3 c1 c2 c3 r1 r2 r3 u.2.2.2.2.2.1 u.2.2.2.2.2.2.1 u.2.2.2.2.2.2.2) t) A) ([.ref h0, .int p1] : List Value).toArray s 0 0 A) (F0 m 32 ls [])) → ∀ (a1 : Int32) (a2 : Int32) (a3 : Int32) (a5 : Int32) (t0 : Int32) (mss : Int32) (mSA : Nat → Int32) (mSB : Nat → Int32) (mSC : Nat → Int32) (mSE : Nat → Int32) (mf1 : Int32) (mf2 : Int32) (mf3 : Int32) (H : Heap) (locs : List Loc) (ls : Array Slot), JX3_trySide_91 ps X Y Z k32 a1 a2 a3 a5 t0 mss mSA mSB mSC mSE mf1 mf2 mf3 = some res → va_P (gD G) vwCl (wMk G h0 p0 ax ay az s0 sa sb sc se b0 ba bb bc be t1 t2 t3 t4 fi ps X Y Z mss mSA mSB mSC mSE bs BA BB BC BD l1 l2 l3 c1 c2 c3 r1 r2 r3 mf1 mf2 mf3) H → va_D A (wMk G h0 p0 ax ay az s0 sa sb sc se b0 ba bb bc be t1 t2 t3 t4 fi ps X Y Z mss mSA mSB mSC mSE bs BA BB BC BD l1 l2 l3 c1 c2 c3 r1 r2 r3 mf1 mf2 mf3) → va_S A s.heap H locs → lv_has ls 7 [(0, .ref h0), (1, .int a1), (2, .int a2), (3, .int a3), (5, .int a5)] → W p l e (headSpec wsX3_trySide rX3_trySide).room s m ([.ref h0, .int p1] : List Value).toArray below meth c H locs 0 0 (MQ below (va_Qv (fun (u : Int32 × (Nat → Int32) × (Nat → Int32) × (Nat → Int32) × (Nat → Int32) × Int32 × Int32 × Int32) => u = res) (fun u t => qW G A (wMk G h0 p0 ax ay az s0 sa sb sc se b0 ba bb bc be t1 t2 t3 t4 fi ps X Y Z u.1 u.2.1 u.2.2.1 u.2.2.2.1 u.2.2.2.2.1 bs BA BB BC BD l1 l2 l3 c1 c2 c3 r1 r2 r3 u.2.2.2.2.2.1 u.2.2.2.2.2.2.1 u.2.2.2.2.2.2.2) t) A) ([.ref h0, .int p1] : List Value).toArray s 0 0 A) (F0 m 91 ls [.int t0]) := by
    intro k32 hk32
    intro a1 a2 a3 a5 t0 mss mSA mSB mSC mSE mf1 mf2 mf3 H locs ls hF hP hD hS hl
    unfold JX3_trySide_91 at hF
    refine lv_istore (lv' := [(4, .int t0), (0, .ref h0), (1, .int a1), (2, .int a2), (3, .int a3), (5, .int a5)]) hx hb dX3_trySide_91 hl (by decide) rfl (fun ls hl => ?_)
    refine lv_iload_n hx hb dX3_trySide_93 rfl (lv_at hl 4 rfl) ?_
    refine lv_if_eq (tgt := 103) hx hb dX3_trySide_94 (by decide) (fun c_14 => ?_) (fun c_14 => ?_)
    · replace hF := it_p c_14 hF
      exact hJ103 _ hk32 a1 a2 a3 t0 a5 mss mSA mSB mSC mSE mf1 mf2 mf3 _ _ _ hF hP hD hS (lv_sub hl [1, 2, 3, 4, 0, 5] rfl)
    · replace hF := it_n c_14 hF
      refine lv_iload hx hb dX3_trySide_97 (lv_at hl 0 rfl) ?_
      refine lv_if_eq (tgt := 103) hx hb dX3_trySide_99 (by decide) (fun c_15 => ?_) (fun c_15 => ?_)
      · replace hF := it_p c_15 hF
        exact hJ103 _ hk32 a1 a2 a3 t0 a5 mss mSA mSB mSC mSE mf1 mf2 mf3 _ _ _ hF hP hD hS (lv_sub hl [1, 2, 3, 4, 0, 5] rfl)
      · replace hF := it_n c_15 hF
        exact W.vret hx hb hr (fun t ht hW => ⟨⟨(mss, mSA, mSB, mSC, mSE, mf1, mf2, mf3), rfl, so_e hF, qW_mk ht hP hK hW hD⟩, hS.F ht⟩) hS.2.2 dX3_trySide_102
  have hJ86 : ∀ (k32 : Int32 → Int32 → Int32 → Int32 → Int32 → Int32 → (Nat → Int32) → (Nat → Int32) → (Nat → Int32) → (Nat → Int32) → Int32 → Int32 → Int32 → Option (Int32 × (Nat → Int32) × (Nat → Int32) × (Nat → Int32) × (Nat → Int32) × Int32 × Int32 × Int32)), (∀ (a1 : Int32) (a2 : Int32) (a3 : Int32) (a4 : Int32) (a5 : Int32) (mss : Int32) (mSA : Nat → Int32) (mSB : Nat → Int32) (mSC : Nat → Int32) (mSE : Nat → Int32) (mf1 : Int32) (mf2 : Int32) (mf3 : Int32) (H : Heap) (locs : List Loc) (ls : Array Slot), k32 a1 a2 a3 a4 a5 mss mSA mSB mSC mSE mf1 mf2 mf3 = some res → va_P (gD G) vwCl (wMk G h0 p0 ax ay az s0 sa sb sc se b0 ba bb bc be t1 t2 t3 t4 fi ps X Y Z mss mSA mSB mSC mSE bs BA BB BC BD l1 l2 l3 c1 c2 c3 r1 r2 r3 mf1 mf2 mf3) H → va_D A (wMk G h0 p0 ax ay az s0 sa sb sc se b0 ba bb bc be t1 t2 t3 t4 fi ps X Y Z mss mSA mSB mSC mSE bs BA BB BC BD l1 l2 l3 c1 c2 c3 r1 r2 r3 mf1 mf2 mf3) → va_S A s.heap H locs → lv_has ls 7 [(0, .ref h0), (1, .int a1), (2, .int a2), (3, .int a3), (4, .int a4), (5, .int a5)] → W p l e (headSpec wsX3_trySide rX3_trySide).room s m ([.ref h0, .int p1] : List Value).toArray below meth c H locs 0 0 (MQ below (va_Qv (fun (u : Int32 × (Nat → Int32) × (Nat → Int32) × (Nat → Int32) × (Nat → Int32) × Int32 × Int32 × Int32) => u = res) (fun u t => qW G A (wMk G h0 p0 ax ay az s0 sa sb sc se b0 ba bb bc be t1 t2 t3 t4 fi ps X Y Z u.1 u.2.1 u.2.2.1 u.2.2.2.1 u.2.2.2.2.1 bs BA BB BC BD l1 l2 l3 c1 c2 c3 r1 r2 r3 u.2.2.2.2.2.1 u.2.2.2.2.2.2.1 u.2.2.2.2.2.2.2) t) A) ([.ref h0, .int p1] : List Value).toArray s 0 0 A) (F0 m 32 ls [])) → ∀ (a1 : Int32) (a2 : Int32) (a3 : Int32) (a5 : Int32) (mss : Int32) (mSA : Nat → Int32) (mSB : Nat → Int32) (mSC : Nat → Int32) (mSE : Nat → Int32) (mf1 : Int32) (mf2 : Int32) (mf3 : Int32) (H : Heap) (locs : List Loc) (ls : Array Slot), JX3_trySide_86 ps X Y Z k32 a1 a2 a3 a5 mss mSA mSB mSC mSE mf1 mf2 mf3 = some res → va_P (gD G) vwCl (wMk G h0 p0 ax ay az s0 sa sb sc se b0 ba bb bc be t1 t2 t3 t4 fi ps X Y Z mss mSA mSB mSC mSE bs BA BB BC BD l1 l2 l3 c1 c2 c3 r1 r2 r3 mf1 mf2 mf3) H → va_D A (wMk G h0 p0 ax ay az s0 sa sb sc se b0 ba bb bc be t1 t2 t3 t4 fi ps X Y Z mss mSA mSB mSC mSE bs BA BB BC BD l1 l2 l3 c1 c2 c3 r1 r2 r3 mf1 mf2 mf3) → va_S A s.heap H locs → lv_has ls 7 [(0, .ref h0), (1, .int a1), (2, .int a2), (3, .int a3), (5, .int a5)] → W p l e (headSpec wsX3_trySide rX3_trySide).room s m ([.ref h0, .int p1] : List Value).toArray below meth c H locs 0 0 (MQ below (va_Qv (fun (u : Int32 × (Nat → Int32) × (Nat → Int32) × (Nat → Int32) × (Nat → Int32) × Int32 × Int32 × Int32) => u = res) (fun u t => qW G A (wMk G h0 p0 ax ay az s0 sa sb sc se b0 ba bb bc be t1 t2 t3 t4 fi ps X Y Z u.1 u.2.1 u.2.2.1 u.2.2.2.1 u.2.2.2.2.1 bs BA BB BC BD l1 l2 l3 c1 c2 c3 r1 r2 r3 u.2.2.2.2.2.1 u.2.2.2.2.2.2.1 u.2.2.2.2.2.2.2) t) A) ([.ref h0, .int p1] : List Value).toArray s 0 0 A) (F0 m 86 ls []) := by
    intro k32 hk32
    intro a1 a2 a3 a5 mss mSA mSB mSC mSE mf1 mf2 mf3 H locs ls hF hP hD hS hl
    unfold JX3_trySide_86 at hF
    refine lv_iconst (v := 1) hx hb dX3_trySide_86 (by decide) ?_
    refine lv_goto (tgt := 91) hx hb dX3_trySide_87 (by decide) ?_
    exact hJ91 _ hk32 a1 a2 a3 a5 1 mss mSA mSB mSC mSE mf1 mf2 mf3 _ _ _ hF hP hD hS (lv_sub hl [0, 1, 2, 3, 4] rfl)
  have hJ74 : ∀ (k32 : Int32 → Int32 → Int32 → Int32 → Int32 → Int32 → (Nat → Int32) → (Nat → Int32) → (Nat → Int32) → (Nat → Int32) → Int32 → Int32 → Int32 → Option (Int32 × (Nat → Int32) × (Nat → Int32) × (Nat → Int32) × (Nat → Int32) × Int32 × Int32 × Int32)), (∀ (a1 : Int32) (a2 : Int32) (a3 : Int32) (a4 : Int32) (a5 : Int32) (mss : Int32) (mSA : Nat → Int32) (mSB : Nat → Int32) (mSC : Nat → Int32) (mSE : Nat → Int32) (mf1 : Int32) (mf2 : Int32) (mf3 : Int32) (H : Heap) (locs : List Loc) (ls : Array Slot), k32 a1 a2 a3 a4 a5 mss mSA mSB mSC mSE mf1 mf2 mf3 = some res → va_P (gD G) vwCl (wMk G h0 p0 ax ay az s0 sa sb sc se b0 ba bb bc be t1 t2 t3 t4 fi ps X Y Z mss mSA mSB mSC mSE bs BA BB BC BD l1 l2 l3 c1 c2 c3 r1 r2 r3 mf1 mf2 mf3) H → va_D A (wMk G h0 p0 ax ay az s0 sa sb sc se b0 ba bb bc be t1 t2 t3 t4 fi ps X Y Z mss mSA mSB mSC mSE bs BA BB BC BD l1 l2 l3 c1 c2 c3 r1 r2 r3 mf1 mf2 mf3) → va_S A s.heap H locs → lv_has ls 7 [(0, .ref h0), (1, .int a1), (2, .int a2), (3, .int a3), (4, .int a4), (5, .int a5)] → W p l e (headSpec wsX3_trySide rX3_trySide).room s m ([.ref h0, .int p1] : List Value).toArray below meth c H locs 0 0 (MQ below (va_Qv (fun (u : Int32 × (Nat → Int32) × (Nat → Int32) × (Nat → Int32) × (Nat → Int32) × Int32 × Int32 × Int32) => u = res) (fun u t => qW G A (wMk G h0 p0 ax ay az s0 sa sb sc se b0 ba bb bc be t1 t2 t3 t4 fi ps X Y Z u.1 u.2.1 u.2.2.1 u.2.2.2.1 u.2.2.2.2.1 bs BA BB BC BD l1 l2 l3 c1 c2 c3 r1 r2 r3 u.2.2.2.2.2.1 u.2.2.2.2.2.2.1 u.2.2.2.2.2.2.2) t) A) ([.ref h0, .int p1] : List Value).toArray s 0 0 A) (F0 m 32 ls [])) → ∀ (a1 : Int32) (a2 : Int32) (a4 : Int32) (a5 : Int32) (a6 : Int32) (t0 : Int32) (mss : Int32) (mSA : Nat → Int32) (mSB : Nat → Int32) (mSC : Nat → Int32) (mSE : Nat → Int32) (mf1 : Int32) (mf2 : Int32) (mf3 : Int32) (H : Heap) (locs : List Loc) (ls : Array Slot), JX3_trySide_74 ps X Y Z k32 a1 a2 a4 a5 a6 t0 mss mSA mSB mSC mSE mf1 mf2 mf3 = some res → va_P (gD G) vwCl (wMk G h0 p0 ax ay az s0 sa sb sc se b0 ba bb bc be t1 t2 t3 t4 fi ps X Y Z mss mSA mSB mSC mSE bs BA BB BC BD l1 l2 l3 c1 c2 c3 r1 r2 r3 mf1 mf2 mf3) H → va_D A (wMk G h0 p0 ax ay az s0 sa sb sc se b0 ba bb bc be t1 t2 t3 t4 fi ps X Y Z mss mSA mSB mSC mSE bs BA BB BC BD l1 l2 l3 c1 c2 c3 r1 r2 r3 mf1 mf2 mf3) → va_S A s.heap H locs → lv_has ls 7 [(0, .ref h0), (1, .int a1), (2, .int a2), (4, .int a4), (5, .int a5), (6, .int a6)] → W p l e (headSpec wsX3_trySide rX3_trySide).room s m ([.ref h0, .int p1] : List Value).toArray below meth c H locs 0 0 (MQ below (va_Qv (fun (u : Int32 × (Nat → Int32) × (Nat → Int32) × (Nat → Int32) × (Nat → Int32) × Int32 × Int32 × Int32) => u = res) (fun u t => qW G A (wMk G h0 p0 ax ay az s0 sa sb sc se b0 ba bb bc be t1 t2 t3 t4 fi ps X Y Z u.1 u.2.1 u.2.2.1 u.2.2.2.1 u.2.2.2.2.1 bs BA BB BC BD l1 l2 l3 c1 c2 c3 r1 r2 r3 u.2.2.2.2.2.1 u.2.2.2.2.2.2.1 u.2.2.2.2.2.2.2) t) A) ([.ref h0, .int p1] : List Value).toArray s 0 0 A) (F0 m 74 ls [.int t0]) := by
    intro k32 hk32
    intro a1 a2 a4 a5 a6 t0 mss mSA mSB mSC mSE mf1 mf2 mf3 H locs ls hF hP hD hS hl
    unfold JX3_trySide_74 at hF
    refine lv_istore_n (lv' := [(3, .int t0), (0, .ref h0), (1, .int a1), (2, .int a2), (4, .int a4), (5, .int a5), (6, .int a6)]) hx hb dX3_trySide_74 rfl hl (by decide) rfl (fun ls hl => ?_)
    refine lv_iload hx hb dX3_trySide_75 (lv_at hl 4 rfl) ?_
    refine lv_if_ne (tgt := 86) hx hb dX3_trySide_77 (by decide) (fun c_13 => ?_) (fun c_13 => ?_)
    · replace hF := it_n c_13 hF
      exact hJ86 _ hk32 a1 a2 t0 a5 mss mSA mSB mSC mSE mf1 mf2 mf3 _ _ _ hF hP hD hS (lv_sub hl [1, 2, 3, 0, 5] rfl)
    · replace hF := it_p c_13 hF
      refine lv_iload hx hb dX3_trySide_80 (lv_at hl 6 rfl) ?_
      refine lv_iload_n hx hb dX3_trySide_82 rfl (lv_at hl 3 rfl) ?_
      refine lv_icmp_ge (tgt := 90) hx hb dX3_trySide_83 (by decide) (fun c_16 => ?_) (fun c_16 => ?_)
      · replace hF := it_p c_16 hF
        refine lv_iconst (v := 0) hx hb dX3_trySide_90 (by decide) ?_
        exact hJ91 _ hk32 a1 a2 t0 a5 0 mss mSA mSB mSC mSE mf1 mf2 mf3 _ _ _ hF hP hD hS (lv_sub hl [1, 2, 3, 0, 5] rfl)
      · replace hF := it_n c_16 hF
        exact hJ86 _ hk32 a1 a2 t0 a5 mss mSA mSB mSC mSE mf1 mf2 mf3 _ _ _ hF hP hD hS (lv_sub hl [1, 2, 3, 0, 5] rfl)
  have hJ69 : ∀ (k32 : Int32 → Int32 → Int32 → Int32 → Int32 → Int32 → (Nat → Int32) → (Nat → Int32) → (Nat → Int32) → (Nat → Int32) → Int32 → Int32 → Int32 → Option (Int32 × (Nat → Int32) × (Nat → Int32) × (Nat → Int32) × (Nat → Int32) × Int32 × Int32 × Int32)), (∀ (a1 : Int32) (a2 : Int32) (a3 : Int32) (a4 : Int32) (a5 : Int32) (mss : Int32) (mSA : Nat → Int32) (mSB : Nat → Int32) (mSC : Nat → Int32) (mSE : Nat → Int32) (mf1 : Int32) (mf2 : Int32) (mf3 : Int32) (H : Heap) (locs : List Loc) (ls : Array Slot), k32 a1 a2 a3 a4 a5 mss mSA mSB mSC mSE mf1 mf2 mf3 = some res → va_P (gD G) vwCl (wMk G h0 p0 ax ay az s0 sa sb sc se b0 ba bb bc be t1 t2 t3 t4 fi ps X Y Z mss mSA mSB mSC mSE bs BA BB BC BD l1 l2 l3 c1 c2 c3 r1 r2 r3 mf1 mf2 mf3) H → va_D A (wMk G h0 p0 ax ay az s0 sa sb sc se b0 ba bb bc be t1 t2 t3 t4 fi ps X Y Z mss mSA mSB mSC mSE bs BA BB BC BD l1 l2 l3 c1 c2 c3 r1 r2 r3 mf1 mf2 mf3) → va_S A s.heap H locs → lv_has ls 7 [(0, .ref h0), (1, .int a1), (2, .int a2), (3, .int a3), (4, .int a4), (5, .int a5)] → W p l e (headSpec wsX3_trySide rX3_trySide).room s m ([.ref h0, .int p1] : List Value).toArray below meth c H locs 0 0 (MQ below (va_Qv (fun (u : Int32 × (Nat → Int32) × (Nat → Int32) × (Nat → Int32) × (Nat → Int32) × Int32 × Int32 × Int32) => u = res) (fun u t => qW G A (wMk G h0 p0 ax ay az s0 sa sb sc se b0 ba bb bc be t1 t2 t3 t4 fi ps X Y Z u.1 u.2.1 u.2.2.1 u.2.2.2.1 u.2.2.2.2.1 bs BA BB BC BD l1 l2 l3 c1 c2 c3 r1 r2 r3 u.2.2.2.2.2.1 u.2.2.2.2.2.2.1 u.2.2.2.2.2.2.2) t) A) ([.ref h0, .int p1] : List Value).toArray s 0 0 A) (F0 m 32 ls [])) → ∀ (a1 : Int32) (a2 : Int32) (a4 : Int32) (a5 : Int32) (a6 : Int32) (mss : Int32) (mSA : Nat → Int32) (mSB : Nat → Int32) (mSC : Nat → Int32) (mSE : Nat → Int32) (mf1 : Int32) (mf2 : Int32) (mf3 : Int32) (H : Heap) (locs : List Loc) (ls : Array Slot), JX3_trySide_69 ps X Y Z k32 a1 a2 a4 a5 a6 mss mSA mSB mSC mSE mf1 mf2 mf3 = some res → va_P (gD G) vwCl (wMk G h0 p0 ax ay az s0 sa sb sc se b0 ba bb bc be t1 t2 t3 t4 fi ps X Y Z mss mSA mSB mSC mSE bs BA BB BC BD l1 l2 l3 c1 c2 c3 r1 r2 r3 mf1 mf2 mf3) H → va_D A (wMk G h0 p0 ax ay az s0 sa sb sc se b0 ba bb bc be t1 t2 t3 t4 fi ps X Y Z mss mSA mSB mSC mSE bs BA BB BC BD l1 l2 l3 c1 c2 c3 r1 r2 r3 mf1 mf2 mf3) → va_S A s.heap H locs → lv_has ls 7 [(0, .ref h0), (1, .int a1), (2, .int a2), (4, .int a4), (5, .int a5), (6, .int a6)] → W p l e (headSpec wsX3_trySide rX3_trySide).room s m ([.ref h0, .int p1] : List Value).toArray below meth c H locs 0 0 (MQ below (va_Qv (fun (u : Int32 × (Nat → Int32) × (Nat → Int32) × (Nat → Int32) × (Nat → Int32) × Int32 × Int32 × Int32) => u = res) (fun u t => qW G A (wMk G h0 p0 ax ay az s0 sa sb sc se b0 ba bb bc be t1 t2 t3 t4 fi ps X Y Z u.1 u.2.1 u.2.2.1 u.2.2.2.1 u.2.2.2.2.1 bs BA BB BC BD l1 l2 l3 c1 c2 c3 r1 r2 r3 u.2.2.2.2.2.1 u.2.2.2.2.2.2.1 u.2.2.2.2.2.2.2) t) A) ([.ref h0, .int p1] : List Value).toArray s 0 0 A) (F0 m 69 ls []) := by
    intro k32 hk32
    intro a1 a2 a4 a5 a6 mss mSA mSB mSC mSE mf1 mf2 mf3 H locs ls hF hP hD hS hl
    unfold JX3_trySide_69 at hF
    refine lv_iconst (v := 1) hx hb dX3_trySide_69 (by decide) ?_
    refine lv_goto (tgt := 74) hx hb dX3_trySide_70 (by decide) ?_
    exact hJ74 _ hk32 a1 a2 a4 a5 a6 1 mss mSA mSB mSC mSE mf1 mf2 mf3 _ _ _ hF hP hD hS (lv_sub hl [0, 1, 2, 3, 4, 5] rfl)
  have hL32 : ∀ (k : Nat), ∀ (a1 : Int32) (a2 : Int32) (a3 : Int32) (a4 : Int32) (a5 : Int32) (mss : Int32) (mSA : Nat → Int32) (mSB : Nat → Int32) (mSC : Nat → Int32) (mSE : Nat → Int32) (mf1 : Int32) (mf2 : Int32) (mf3 : Int32) (H : Heap) (locs : List Loc) (ls : Array Slot), LX3_trySide_32 ps X Y Z k a1 a2 a3 a4 a5 mss mSA mSB mSC mSE mf1 mf2 mf3 = some res → va_P (gD G) vwCl (wMk G h0 p0 ax ay az s0 sa sb sc se b0 ba bb bc be t1 t2 t3 t4 fi ps X Y Z mss mSA mSB mSC mSE bs BA BB BC BD l1 l2 l3 c1 c2 c3 r1 r2 r3 mf1 mf2 mf3) H → va_D A (wMk G h0 p0 ax ay az s0 sa sb sc se b0 ba bb bc be t1 t2 t3 t4 fi ps X Y Z mss mSA mSB mSC mSE bs BA BB BC BD l1 l2 l3 c1 c2 c3 r1 r2 r3 mf1 mf2 mf3) → va_S A s.heap H locs → lv_has ls 7 [(0, .ref h0), (1, .int a1), (2, .int a2), (3, .int a3), (4, .int a4), (5, .int a5)] → W p l e (headSpec wsX3_trySide rX3_trySide).room s m ([.ref h0, .int p1] : List Value).toArray below meth c H locs 0 0 (MQ below (va_Qv (fun (u : Int32 × (Nat → Int32) × (Nat → Int32) × (Nat → Int32) × (Nat → Int32) × Int32 × Int32 × Int32) => u = res) (fun u t => qW G A (wMk G h0 p0 ax ay az s0 sa sb sc se b0 ba bb bc be t1 t2 t3 t4 fi ps X Y Z u.1 u.2.1 u.2.2.1 u.2.2.2.1 u.2.2.2.2.1 bs BA BB BC BD l1 l2 l3 c1 c2 c3 r1 r2 r3 u.2.2.2.2.2.1 u.2.2.2.2.2.2.1 u.2.2.2.2.2.2.2) t) A) ([.ref h0, .int p1] : List Value).toArray s 0 0 A) (F0 m 32 ls []) := by
    intro k
    induction k with
    | zero =>
      intro a1 a2 a3 a4 a5 mss mSA mSB mSC mSE mf1 mf2 mf3 H locs ls hF hP hD hS hl
      rw [LX3_trySide_32] at hF
      cases hF
    | succ k ih =>
      intro a1 a2 a3 a4 a5 mss mSA mSB mSC mSE mf1 mf2 mf3 H locs ls hF hP hD hS hl
      rw [LX3_trySide_32] at hF
      refine lv_iload hx hb dX3_trySide_32 (lv_at hl 5 rfl) ?_
      refine lv_aload_n hx hb dX3_trySide_34 rfl (lv_at hl 0 rfl) ?_
      refine va_get (ci := 3) (v := .ref p0) (C := RX3) (T := TX3) (N := 8) hx hb hts hin3 hown hK hP 0 rfl rfl 0 (by decide) hfl14 (fun _ h9 => h9) rfl dX3_trySide_35 ?_
      refine va_get (ci := 4) (v := .int ps) (C := RX4) (T := TX4) (N := 4) hx hb hts hin4 hown hK hP 1 rfl rfl 3 (by decide) hfl46 (fun _ h9 => h9) rfl dX3_trySide_38 ?_
      refine lv_icmp_ge (tgt := 109) hx hb dX3_trySide_41 (by decide) (fun c_5 => ?_) (fun c_5 => ?_)
      · replace hF := it_p c_5 hF
        refine lv_iload_n hx hb dX3_trySide_109 rfl (lv_at hl 3 rfl) ?_
        refine lv_if_eq (tgt := 120) hx hb dX3_trySide_110 (by decide) (fun c_6 => ?_) (fun c_6 => ?_)
        · replace hF := it_p c_6 hF
          exact hJ120 a1 mss mSA mSB mSC mSE mf1 mf2 mf3 _ _ _ hF hP hD hS (lv_sub hl [0, 1] rfl)
        · replace hF := it_n c_6 hF
          refine lv_aload_n hx hb dX3_trySide_113 rfl (lv_at hl 0 rfl) ?_
          refine va_get (ci := 3) (v := .ref t4) (C := RX3) (T := TX3) (N := 8) hx hb hts hin3 hown hK hP 0 rfl rfl 6 (by decide) hfl43 (fun _ h9 => h9) rfl dX3_trySide_114 ?_
          obtain ⟨v_10, hv_10, hF⟩ := bd_s hF
          refine rw_ve (wf := (fun (u : Int32 × Int32 × Int32) => (wStp G t4 u.1 u.2.1 u.2.2))) (wr := [(h0, .inr (3, [.ref p0, .ref s0, .ref b0, .ref t1, .ref t2, .ref t3, .ref t4, .int fi])), (p0, .inr (4, [.ref ax, .ref ay, .ref az, .int ps])), (ax, .inl (gI G, 121, .inl X)), (ay, .inl (gI G, 121, .inl Y)), (az, .inl (gI G, 121, .inl Z)), (s0, .inr (1, [.ref sa, .ref sb, .ref sc, .ref se, .int mss])), (sa, .inl (gI G, 80, .inl mSA)), (sb, .inl (gI G, 80, .inl mSB)), (sc, .inl (gI G, 80, .inl mSC)), (se, .inl (gI G, 80, .inl mSE)), (b0, .inr (1, [.ref ba, .ref bb, .ref bc, .ref be, .int bs])), (ba, .inl (gI G, 3, .inl BA)), (bb, .inl (gI G, 3, .inl BB)), (bc, .inl (gI G, 3, .inl BC)), (be, .inl (gI G, 3, .inl BD)), (t1, .inr (6, [.int l1, .int l2, .int l3])), (t2, .inr (6, [.int c1, .int c2, .int c3])), (t3, .inr (6, [.int r1, .int r2, .int r3]))]) (va_runV (As := []) (rest := []) ⟨hx, hb, hml, hown, hts⟩ (kX6_flip l G t4 H.size mf1 mf2 mf3 v_10 hv_10) (cwV 0 hts gX3_trySide_X6_flip rfl rfl rfl (by decide +kernel) ⟨Nat.le_of_ble_eq_true rfl, Nat.le_of_ble_eq_true rfl⟩) (pvW (q0 := 0) 6 hK (hP.sub (ws' := (wStp G t4 mf1 mf2 mf3)) [18] rfl) (hD.sub (ws' := (wStp G t4 mf1 mf2 mf3)) [18] (by decide) rfl) rfl rfl) rfl rfl hl.1 rfl (lv_room (Nat.le_of_ble_eq_true rfl)) dX3_trySide_117 ⟨Nat.le_of_ble_eq_true rfl, Nat.le_of_ble_eq_true rfl⟩) hP hD hS hA [18] [0, 1, 2, 3, 4, 5, 6, 7, 8, 9, 10, 11, 12, 13, 14, 15, 16, 17] rfl rfl (by decide) (by decide) (fun H locs  hP hD hS => ?_)
          have hP : va_P (gD G) vwCl (wMk G h0 p0 ax ay az s0 sa sb sc se b0 ba bb bc be t1 t2 t3 t4 fi ps X Y Z mss mSA mSB mSC mSE bs BA BB BC BD l1 l2 l3 c1 c2 c3 r1 r2 r3 v_10.1 v_10.2.1 v_10.2.2) H := hP.sub [0, 1, 2, 3, 4, 5, 6, 7, 8, 9, 10, 11, 12, 13, 14, 15, 16, 17, 18] rfl
          have hD : va_D A (wMk G h0 p0 ax ay az s0 sa sb sc se b0 ba bb bc be t1 t2 t3 t4 fi ps X Y Z mss mSA mSB mSC mSE bs BA BB BC BD l1 l2 l3 c1 c2 c3 r1 r2 r3 v_10.1 v_10.2.1 v_10.2.2) := hD.sub [0, 1, 2, 3, 4, 5, 6, 7, 8, 9, 10, 11, 12, 13, 14, 15, 16, 17, 18] (by decide) rfl
          exact hJ120 a1 mss mSA mSB mSC mSE v_10.1 v_10.2.1 v_10.2.2 _ _ _ hF hP hD hS (lv_sub hl [0, 1] rfl)
      · replace hF := it_n c_5 hF
        refine lv_aload_n hx hb dX3_trySide_44 rfl (lv_at hl 0 rfl) ?_
        refine va_get (ci := 3) (v := .ref t4) (C := RX3) (T := TX3) (N := 8) hx hb hts hin3 hown hK hP 0 rfl rfl 6 (by decide) hfl43 (fun _ h9 => h9) rfl dX3_trySide_45 ?_
        refine lv_aload_n hx hb dX3_trySide_48 rfl (lv_at hl 0 rfl) ?_
        refine va_get (ci := 3) (v := .ref p0) (C := RX3) (T := TX3) (N := 8) hx hb hts hin3 hown hK hP 0 rfl rfl 0 (by decide) hfl14 (fun _ h9 => h9) rfl dX3_trySide_49 ?_
        refine lv_iload hx hb dX3_trySide_52 (lv_at hl 5 rfl) ?_
        obtain ⟨v_11, hv_11, hF⟩ := bd_s hF
        refine ro_ie (va_runV (As := [.ref p0, .int a5]) (rest := []) ⟨hx, hb, hml, hown, hts⟩ (kX6_at l G t4 p0 ax ay az 121 mf1 mf2 mf3 ps X Y Z a5 v_11 hv_11) (cwV 2 hts gX3_trySide_X6_at rfl rfl rfl (by decide +kernel) ⟨Nat.le_of_ble_eq_true rfl, Nat.le_of_ble_eq_true rfl⟩) (pvR (q0 := 0) 6 hK (hP.sub (ws' := (wStpPt G t4 p0 ax ay az 121 mf1 mf2 mf3 ps X Y Z)) [18, 1, 2, 3, 4] rfl) rfl rfl) rfl rfl hl.1 rfl (lv_room (Nat.le_of_ble_eq_true rfl)) dX3_trySide_54 ⟨Nat.le_of_ble_eq_true rfl, Nat.le_of_ble_eq_true rfl⟩) ?_
        refine lv_istore (lv' := [(6, .int v_11), (0, .ref h0), (1, .int a1), (2, .int a2), (3, .int a3), (4, .int a4), (5, .int a5)]) hx hb dX3_trySide_57 hl (by decide) rfl (fun ls hl => ?_)
        refine lv_iload_n hx hb dX3_trySide_59 rfl (lv_at hl 4 rfl) ?_
        refine lv_if_ne (tgt := 69) hx hb dX3_trySide_60 (by decide) (fun c_12 => ?_) (fun c_12 => ?_)
        · replace hF := it_n c_12 hF
          exact hJ69 _ ih a1 a2 a4 a5 v_11 mss mSA mSB mSC mSE mf1 mf2 mf3 _ _ _ hF hP hD hS (lv_sub hl [1, 2, 3, 5, 6, 0] rfl)
        · replace hF := it_p c_12 hF
          refine lv_iload hx hb dX3_trySide_63 (lv_at hl 0 rfl) ?_
          refine lv_iload_n hx hb dX3_trySide_65 rfl (lv_at hl 3 rfl) ?_
          refine lv_icmp_le (tgt := 73) hx hb dX3_trySide_66 (by decide) (fun c_17 => ?_) (fun c_17 => ?_)
          · replace hF := it_p c_17 hF
            refine lv_iconst (v := 0) hx hb dX3_trySide_73 (by decide) ?_
            exact hJ74 _ ih a1 a2 a4 a5 v_11 0 mss mSA mSB mSC mSE mf1 mf2 mf3 _ _ _ hF hP hD hS (lv_sub hl [1, 2, 3, 5, 6, 0] rfl)
          · replace hF := it_n c_17 hF
            exact hJ69 _ ih a1 a2 a4 a5 v_11 mss mSA mSB mSC mSE mf1 mf2 mf3 _ _ _ hF hP hD hS (lv_sub hl [1, 2, 3, 5, 6, 0] rfl)
  unfold fX3_trySide at hF
  refine lv_aload_n hx hb dX3_trySide_0 rfl (lv_at hl 0 rfl) ?_
  refine va_get (ci := 3) (v := .ref t4) (C := RX3) (T := TX3) (N := 8) hx hb hts hin3 hown hK hP 0 rfl rfl 6 (by decide) hfl43 (fun _ h9 => h9) rfl dX3_trySide_1 ?_
  obtain ⟨v_1, hv_1, hF⟩ := bd_s hF
  refine ro_ze (va_runV (As := []) (rest := []) ⟨hx, hb, hml, hown, hts⟩ (kX6_isNought l G t4 f1 f2 f3 v_1 hv_1) (cwV 0 hts gX3_trySide_X6_isNought rfl rfl rfl (by decide +kernel) ⟨Nat.le_of_ble_eq_true rfl, Nat.le_of_ble_eq_true rfl⟩) (pvR (q0 := 0) 6 hK (hP.sub (ws' := (wStp G t4 f1 f2 f3)) [18] rfl) rfl rfl) rfl rfl hl.1 rfl (lv_room (Nat.le_of_ble_eq_true rfl)) dX3_trySide_4 ⟨Nat.le_of_ble_eq_true rfl, Nat.le_of_ble_eq_true rfl⟩) (fun hb_2 => ?_)
  refine lv_if_eq (tgt := 11) hx hb dX3_trySide_7 (by decide) (fun c_3 => ?_) (fun c_3 => ?_)
  · replace hF := it_p c_3 hF
    refine lv_aload_n hx hb dX3_trySide_11 rfl (lv_at hl 0 rfl) ?_
    refine va_get (ci := 3) (v := .ref t4) (C := RX3) (T := TX3) (N := 8) hx hb hts hin3 hown hK hP 0 rfl rfl 6 (by decide) hfl43 (fun _ h9 => h9) rfl dX3_trySide_12 ?_
    refine lv_aload_n hx hb dX3_trySide_15 rfl (lv_at hl 0 rfl) ?_
    refine va_get (ci := 3) (v := .ref p0) (C := RX3) (T := TX3) (N := 8) hx hb hts hin3 hown hK hP 0 rfl rfl 0 (by decide) hfl14 (fun _ h9 => h9) rfl dX3_trySide_16 ?_
    refine lv_iload_n hx hb dX3_trySide_19 rfl (lv_at hl 1 rfl) ?_
    obtain ⟨v_4, hv_4, hF⟩ := bd_s hF
    refine ro_ie (va_runV (As := [.ref p0, .int p1]) (rest := []) ⟨hx, hb, hml, hown, hts⟩ (kX6_at l G t4 p0 ax ay az 121 f1 f2 f3 ps X Y Z p1 v_4 hv_4) (cwV 2 hts gX3_trySide_X6_at rfl rfl rfl (by decide +kernel) ⟨Nat.le_of_ble_eq_true rfl, Nat.le_of_ble_eq_true rfl⟩) (pvR (q0 := 0) 6 hK (hP.sub (ws' := (wStpPt G t4 p0 ax ay az 121 f1 f2 f3 ps X Y Z)) [18, 1, 2, 3, 4] rfl) rfl rfl) rfl rfl hl.1 rfl (lv_room (Nat.le_of_ble_eq_true rfl)) dX3_trySide_20 ⟨Nat.le_of_ble_eq_true rfl, Nat.le_of_ble_eq_true rfl⟩) ?_
    refine lv_istore_n (lv' := [(2, .int v_4), (0, .ref h0), (1, .int p1)]) hx hb dX3_trySide_23 rfl hl (by decide) rfl (fun ls hl => ?_)
    refine lv_iconst (v := 0) hx hb dX3_trySide_24 (by decide) ?_
    refine lv_istore_n (lv' := [(3, .int 0), (2, .int v_4), (0, .ref h0), (1, .int p1)]) hx hb dX3_trySide_25 rfl hl (by decide) rfl (fun ls hl => ?_)
    refine lv_iconst (v := 0) hx hb dX3_trySide_26 (by decide) ?_
    refine lv_istore (lv' := [(4, .int 0), (3, .int 0), (2, .int v_4), (0, .ref h0), (1, .int p1)]) hx hb dX3_trySide_27 hl (by decide) rfl (fun ls hl => ?_)
    refine lv_iconst (v := 0) hx hb dX3_trySide_29 (by decide) ?_
    refine lv_istore (lv' := [(5, .int 0), (4, .int 0), (3, .int 0), (2, .int v_4), (0, .ref h0), (1, .int p1)]) hx hb dX3_trySide_30 hl (by decide) rfl (fun ls hl => ?_)
    exact hL32 FU p1 v_4 0 0 0 ss SA SB SC SE f1 f2 f3 _ _ _ hF hP hD hS (lv_sub hl [4, 5, 3, 2, 1, 0] rfl)
  · replace hF := it_n c_3 hF
    exact W.vret hx hb hr (fun t ht hW => ⟨⟨(ss, SA, SB, SC, SE, f1, f2, f3), rfl, so_e hF, qW_mk ht hP hK hW hD⟩, hS.F ht⟩) hS.2.2 dX3_trySide_10
def LX3_findEnds_11 (fi : Int32) (ps : Int32) (X : Nat → Int32) (Y : Nat → Int32) (Z : Nat → Int32)  : Nat → Int32 → Int32 → (Nat → Int32) → (Nat → Int32) → (Nat → Int32) → (Nat → Int32) → Int32 → Int32 → Int32 → Option (Int32 × (Nat → Int32) × (Nat → Int32) × (Nat → Int32) × (Nat → Int32) × Int32 × Int32 × Int32)
  | 0, _, _, _, _, _, _, _, _, _ => none
  | k + 1, a1, mss, mSA, mSB, mSC, mSE, mf1, mf2, mf3 =>
  (if ps ≤ a1 then (some (mss, mSA, mSB, mSC, mSE, mf1, mf2, mf3)) else (bd (fX6_lead 121 mf1 mf2 mf3 X Y Z 0 (ps - 1)) (fun v_3 => (bd (fX3_trySide ps X Y Z mss mSA mSB mSC mSE v_3.1 v_3.2.1 v_3.2.2 a1) (fun v_4 => (LX3_findEnds_11 fi ps X Y Z k (a1 + 1) v_4.1 v_4.2.1 v_4.2.2.1 v_4.2.2.2.1 v_4.2.2.2.2.1 v_4.2.2.2.2.2.1 v_4.2.2.2.2.2.2.1 v_4.2.2.2.2.2.2.2))))))
def fX3_findEnds (fi : Int32) (ps : Int32) (X : Nat → Int32) (Y : Nat → Int32) (Z : Nat → Int32) (ss : Int32) (SA : Nat → Int32) (SB : Nat → Int32) (SC : Nat → Int32) (SE : Nat → Int32) (f1 : Int32) (f2 : Int32) (f3 : Int32) : Option (Int32 × (Nat → Int32) × (Nat → Int32) × (Nat → Int32) × (Nat → Int32) × Int32 × Int32 × Int32) :=
  (if fi = 1 then (LX3_findEnds_11 fi ps X Y Z FU 0 ss SA SB SC SE f1 f2 f3) else (some (ss, SA, SB, SC, SE, f1, f2, f3)))
abbrev rX3_findEnds : Room := { frames := 3, cells := 0, slots := 0, locals := 75 }
set_option maxHeartbeats 40000000 in
set_option maxRecDepth 100000 in
theorem kX3_findEnds (l : Launch) (G : GT) (h0 p0 ax ay az s0 sa sb sc se b0 ba bb bc be t1 t2 t3 t4 : Nat) (sz : Nat) (fi : Int32) (ps : Int32) (X : Nat → Int32) (Y : Nat → Int32) (Z : Nat → Int32) (ss : Int32) (SA : Nat → Int32) (SB : Nat → Int32) (SC : Nat → Int32) (SE : Nat → Int32) (bs : Int32) (BA : Nat → Int32) (BB : Nat → Int32) (BC : Nat → Int32) (BD : Nat → Int32) (l1 : Int32) (l2 : Int32) (l3 : Int32) (c1 : Int32) (c2 : Int32) (c3 : Int32) (r1 : Int32) (r2 : Int32) (r3 : Int32) (f1 : Int32) (f2 : Int32) (f3 : Int32) (res : Int32 × (Nat → Int32) × (Nat → Int32) × (Nat → Int32) × (Nat → Int32) × Int32 × Int32 × Int32) (hF : fX3_findEnds fi ps X Y Z ss SA SB SC SE f1 f2 f3 = some res) : Met l yX3_findEnds wsX3_findEnds rX3_findEnds (va_Pc [.ref h0] (pW G sz (wMk G h0 p0 ax ay az s0 sa sb sc se b0 ba bb bc be t1 t2 t3 t4 fi ps X Y Z ss SA SB SC SE bs BA BB BC BD l1 l2 l3 c1 c2 c3 r1 r2 r3 f1 f2 f3))) (va_Qv (fun (u : Int32 × (Nat → Int32) × (Nat → Int32) × (Nat → Int32) × (Nat → Int32) × Int32 × Int32 × Int32) => u = res) (fun u t => qW G (va_A (wMk G h0 p0 ax ay az s0 sa sb sc se b0 ba bb bc be t1 t2 t3 t4 fi ps X Y Z ss SA SB SC SE bs BA BB BC BD l1 l2 l3 c1 c2 c3 r1 r2 r3 f1 f2 f3) sz) (wMk G h0 p0 ax ay az s0 sa sb sc se b0 ba bb bc be t1 t2 t3 t4 fi ps X Y Z u.1 u.2.1 u.2.2.1 u.2.2.2.1 u.2.2.2.2.1 bs BA BB BC BD l1 l2 l3 c1 c2 c3 r1 r2 r3 u.2.2.2.2.2.1 u.2.2.2.2.2.2.1 u.2.2.2.2.2.2.2) t) (va_A (wMk G h0 p0 ax ay az s0 sa sb sc se b0 ba bb bc be t1 t2 t3 t4 fi ps X Y Z ss SA SB SC SE bs BA BB BC BD l1 l2 l3 c1 c2 c3 r1 r2 r3 f1 f2 f3) sz)) 0 0 (va_A (wMk G h0 p0 ax ay az s0 sa sb sc se b0 ba bb bc be t1 t2 t3 t4 fi ps X Y Z ss SA SB SC SE bs BA BB BC BD l1 l2 l3 c1 c2 c3 r1 r2 r3 f1 f2 f3) sz) := by
  refine Met.ofW (cc := cX3_findEnds) (maxL := 2) (ret := none) (by decide) rfl ?_
  intro p e s m args below meth c s₁ B hml hv
  obtain ⟨rfl, hsz, hP, hK, hD0⟩ := hv
  have hx := B.exec
  have hb := B.bytes
  have hr := B.returns
  have hts := atoms_spec (ws := wsX3_findEnds) B.pre
  have hown : s.vm.findClass RX3 = some m.cls := findClass_of_methodNamed B.named
  have hlocks := B.notSynchronized
  subst hsz
  have hD := hD0.self (sz := s.heap.size)
  generalize hAe : va_A (wMk G h0 p0 ax ay az s0 sa sb sc se b0 ba bb bc be t1 t2 t3 t4 fi ps X Y Z ss SA SB SC SE bs BA BB BC BD l1 l2 l3 c1 c2 c3 r1 r2 r3 f1 f2 f3) s.heap.size = A at hD ⊢
  have hA : ∀ q : Nat, s.heap.size ≤ q → A q := fun q h => by rw [← hAe]; exact Or.inr h
  have hS : va_S A s.heap s.heap [] := va_S.rf
  have hin3 : ∀ w ∈ u_ws RX3 TX3 8, w ∈ wsX3_findEnds := by decide +kernel
  have hfl88 := hts (.fieldLink RX3 88 "SwellBodies$Maker" "fills" "I") (by decide +kernel)
  have hfl14 := hts (.fieldLink RX3 14 "SwellBodies$Maker" "points" "LSwellBodies$Points;") (by decide +kernel)
  have hin4 : ∀ w ∈ u_ws RX4 TX4 4, w ∈ wsX3_findEnds := by decide +kernel
  have hfl46 := hts (.fieldLink RX3 46 "SwellBodies$Points" "size" "I") (by decide +kernel)
  have hfl43 := hts (.fieldLink RX3 43 "SwellBodies$Maker" "facing" "LSwellBodies$Step;") (by decide +kernel)
  have hl := lv_entry ([.ref h0]) (n := 2) (Nat.le_of_ble_eq_true rfl)
  rw [lg_entry_eq]
  generalize (lg_sl ([.ref h0]) ++ List.replicate (2 - (lg_sl ([.ref h0])).length) Slot.unset).toArray = ls at hl ⊢
  have hl : lv_has ls 2 [(0, .ref h0)] := hl
  have hL11 : ∀ (k : Nat), ∀ (a1 : Int32) (mss : Int32) (mSA : Nat → Int32) (mSB : Nat → Int32) (mSC : Nat → Int32) (mSE : Nat → Int32) (mf1 : Int32) (mf2 : Int32) (mf3 : Int32) (H : Heap) (locs : List Loc) (ls : Array Slot), LX3_findEnds_11 fi ps X Y Z k a1 mss mSA mSB mSC mSE mf1 mf2 mf3 = some res → va_P (gD G) vwCl (wMk G h0 p0 ax ay az s0 sa sb sc se b0 ba bb bc be t1 t2 t3 t4 fi ps X Y Z mss mSA mSB mSC mSE bs BA BB BC BD l1 l2 l3 c1 c2 c3 r1 r2 r3 mf1 mf2 mf3) H → va_D A (wMk G h0 p0 ax ay az s0 sa sb sc se b0 ba bb bc be t1 t2 t3 t4 fi ps X Y Z mss mSA mSB mSC mSE bs BA BB BC BD l1 l2 l3 c1 c2 c3 r1 r2 r3 mf1 mf2 mf3) → va_S A s.heap H locs → lv_has ls 2 [(0, .ref h0), (1, .int a1)] → W p l e (headSpec wsX3_findEnds rX3_findEnds).room s m ([.ref h0] : List Value).toArray below meth c H locs 0 0 (MQ below (va_Qv (fun (u : Int32 × (Nat → Int32) × (Nat → Int32) × (Nat → Int32) × (Nat → Int32) × Int32 × Int32 × Int32) => u = res) (fun u t => qW G A (wMk G h0 p0 ax ay az s0 sa sb sc se b0 ba bb bc be t1 t2 t3 t4 fi ps X Y Z u.1 u.2.1 u.2.2.1 u.2.2.2.1 u.2.2.2.2.1 bs BA BB BC BD l1 l2 l3 c1 c2 c3 r1 r2 r3 u.2.2.2.2.2.1 u.2.2.2.2.2.2.1 u.2.2.2.2.2.2.2) t) A) ([.ref h0] : List Value).toArray s 0 0 A) (F0 m 11 ls []) := by
    intro k
    induction k with
    | zero =>
      intro a1 mss mSA mSB mSC mSE mf1 mf2 mf3 H locs ls hF hP hD hS hl
      rw [LX3_findEnds_11] at hF
      cases hF
    | succ k ih =>
      intro a1 mss mSA mSB mSC mSE mf1 mf2 mf3 H locs ls hF hP hD hS hl
      rw [LX3_findEnds_11] at hF
      refine lv_iload_n hx hb dX3_findEnds_11 rfl (lv_at hl 1 rfl) ?_
      refine lv_aload_n hx hb dX3_findEnds_12 rfl (lv_at hl 0 rfl) ?_
      refine va_get (ci := 3) (v := .ref p0) (C := RX3) (T := TX3) (N := 8) hx hb hts hin3 hown hK hP 0 rfl rfl 0 (by decide) hfl14 (fun _ h9 => h9) rfl dX3_findEnds_13 ?_
      refine va_get (ci := 4) (v := .int ps) (C := RX4) (T := TX4) (N := 4) hx hb hts hin4 hown hK hP 1 rfl rfl 3 (by decide) hfl46 (fun _ h9 => h9) rfl dX3_findEnds_16 ?_
      refine lv_icmp_ge (tgt := 54) hx hb dX3_findEnds_19 (by decide) (fun c_2 => ?_) (fun c_2 => ?_)
      · replace hF := it_p c_2 hF
        exact W.vret hx hb hr (fun t ht hW => ⟨⟨(mss, mSA, mSB, mSC, mSE, mf1, mf2, mf3), rfl, so_e hF, qW_mk ht hP hK hW hD⟩, hS.F ht⟩) hS.2.2 dX3_findEnds_54
      · replace hF := it_n c_2 hF
        refine lv_aload_n hx hb dX3_findEnds_22 rfl (lv_at hl 0 rfl) ?_
        refine va_get (ci := 3) (v := .ref t4) (C := RX3) (T := TX3) (N := 8) hx hb hts hin3 hown hK hP 0 rfl rfl 6 (by decide) hfl43 (fun _ h9 => h9) rfl dX3_findEnds_23 ?_
        refine lv_aload_n hx hb dX3_findEnds_26 rfl (lv_at hl 0 rfl) ?_
        refine va_get (ci := 3) (v := .ref p0) (C := RX3) (T := TX3) (N := 8) hx hb hts hin3 hown hK hP 0 rfl rfl 0 (by decide) hfl14 (fun _ h9 => h9) rfl dX3_findEnds_27 ?_
        refine lv_iconst (v := 0) hx hb dX3_findEnds_30 (by decide) ?_
        refine lv_aload_n hx hb dX3_findEnds_31 rfl (lv_at hl 0 rfl) ?_
        refine va_get (ci := 3) (v := .ref p0) (C := RX3) (T := TX3) (N := 8) hx hb hts hin3 hown hK hP 0 rfl rfl 0 (by decide) hfl14 (fun _ h9 => h9) rfl dX3_findEnds_32 ?_
        refine va_get (ci := 4) (v := .int ps) (C := RX4) (T := TX4) (N := 4) hx hb hts hin4 hown hK hP 1 rfl rfl 3 (by decide) hfl46 (fun _ h9 => h9) rfl dX3_findEnds_35 ?_
        refine lv_iconst (v := 1) hx hb dX3_findEnds_38 (by decide) ?_
        refine lv_isub hx hb dX3_findEnds_39 ?_
        obtain ⟨v_3, hv_3, hF⟩ := bd_s hF
        refine rw_ve (wf := (fun (u : Int32 × Int32 × Int32) => (wStpPt G t4 p0 ax ay az 121 u.1 u.2.1 u.2.2 ps X Y Z))) (wr := [(h0, .inr (3, [.ref p0, .ref s0, .ref b0, .ref t1, .ref t2, .ref t3, .ref t4, .int fi])), (s0, .inr (1, [.ref sa, .ref sb, .ref sc, .ref se, .int mss])), (sa, .inl (gI G, 80, .inl mSA)), (sb, .inl (gI G, 80, .inl mSB)), (sc, .inl (gI G, 80, .inl mSC)), (se, .inl (gI G, 80, .inl mSE)), (b0, .inr (1, [.ref ba, .ref bb, .ref bc, .ref be, .int bs])), (ba, .inl (gI G, 3, .inl BA)), (bb, .inl (gI G, 3, .inl BB)), (bc, .inl (gI G, 3, .inl BC)), (be, .inl (gI G, 3, .inl BD)), (t1, .inr (6, [.int l1, .int l2, .int l3])), (t2, .inr (6, [.int c1, .int c2, .int c3])), (t3, .inr (6, [.int r1, .int r2, .int r3]))]) (va_runV (As := [.ref p0, .int 0, .int (ps - 1)]) (rest := []) ⟨hx, hb, hml, hown, hts⟩ (kX6_lead l G t4 p0 ax ay az H.size 121 mf1 mf2 mf3 ps X Y Z 0 (ps - 1) v_3 hv_3) (cwV 3 hts gX3_findEnds_X6_lead rfl rfl rfl (by decide +kernel) ⟨Nat.le_of_ble_eq_true rfl, Nat.le_of_ble_eq_true rfl⟩) (pvW (q0 := 0) 6 hK (hP.sub (ws' := (wStpPt G t4 p0 ax ay az 121 mf1 mf2 mf3 ps X Y Z)) [18, 1, 2, 3, 4] rfl) (hD.sub (ws' := (wStpPt G t4 p0 ax ay az 121 mf1 mf2 mf3 ps X Y Z)) [18, 1, 2, 3, 4] (by decide) rfl) rfl rfl) rfl rfl hl.1 rfl (lv_room (Nat.le_of_ble_eq_true rfl)) dX3_findEnds_40 ⟨Nat.le_of_ble_eq_true rfl, Nat.le_of_ble_eq_true rfl⟩) hP hD hS hA [18, 1, 2, 3, 4] [0, 5, 6, 7, 8, 9, 10, 11, 12, 13, 14, 15, 16, 17] rfl rfl (by decide) (by decide) (fun H locs  hP hD hS => ?_)
        have hP : va_P (gD G) vwCl (wMk G h0 p0 ax ay az s0 sa sb sc se b0 ba bb bc be t1 t2 t3 t4 fi ps X Y Z mss mSA mSB mSC mSE bs BA BB BC BD l1 l2 l3 c1 c2 c3 r1 r2 r3 v_3.1 v_3.2.1 v_3.2.2) H := hP.sub [0, 15, 16, 17, 18, 1, 2, 3, 4, 5, 6, 7, 8, 9, 10, 11, 12, 13, 14] rfl
        have hD : va_D A (wMk G h0 p0 ax ay az s0 sa sb sc se b0 ba bb bc be t1 t2 t3 t4 fi ps X Y Z mss mSA mSB mSC mSE bs BA BB BC BD l1 l2 l3 c1 c2 c3 r1 r2 r3 v_3.1 v_3.2.1 v_3.2.2) := hD.sub [0, 15, 16, 17, 18, 1, 2, 3, 4, 5, 6, 7, 8, 9, 10, 11, 12, 13, 14] (by decide) rfl
        refine lv_aload_n hx hb dX3_findEnds_43 rfl (lv_at hl 0 rfl) ?_
        refine lv_iload_n hx hb dX3_findEnds_44 rfl (lv_at hl 1 rfl) ?_
        obtain ⟨v_4, hv_4, hF⟩ := bd_s hF
        refine rw_ve (wf := (fun (u : Int32 × (Nat → Int32) × (Nat → Int32) × (Nat → Int32) × (Nat → Int32) × Int32 × Int32 × Int32) => (wMk G h0 p0 ax ay az s0 sa sb sc se b0 ba bb bc be t1 t2 t3 t4 fi ps X Y Z u.1 u.2.1 u.2.2.1 u.2.2.2.1 u.2.2.2.2.1 bs BA BB BC BD l1 l2 l3 c1 c2 c3 r1 r2 r3 u.2.2.2.2.2.1 u.2.2.2.2.2.2.1 u.2.2.2.2.2.2.2))) (wr := []) (va_runV (As := [.int a1]) (rest := []) ⟨hx, hb, hml, hown, hts⟩ (kX3_trySide l G h0 p0 ax ay az s0 sa sb sc se b0 ba bb bc be t1 t2 t3 t4 H.size fi ps X Y Z mss mSA mSB mSC mSE bs BA BB BC BD l1 l2 l3 c1 c2 c3 r1 r2 r3 v_3.1 v_3.2.1 v_3.2.2 a1 v_4 hv_4) (cwV 1 hts gX3_findEnds_X3_trySide rfl rfl rfl (by decide +kernel) ⟨Nat.le_of_ble_eq_true rfl, Nat.le_of_ble_eq_true rfl⟩) (pvW (q0 := 0) 3 hK (hP.sub (ws' := (wMk G h0 p0 ax ay az s0 sa sb sc se b0 ba bb bc be t1 t2 t3 t4 fi ps X Y Z mss mSA mSB mSC mSE bs BA BB BC BD l1 l2 l3 c1 c2 c3 r1 r2 r3 v_3.1 v_3.2.1 v_3.2.2)) [0, 1, 2, 3, 4, 5, 6, 7, 8, 9, 10, 11, 12, 13, 14, 15, 16, 17, 18] rfl) (hD.sub (ws' := (wMk G h0 p0 ax ay az s0 sa sb sc se b0 ba bb bc be t1 t2 t3 t4 fi ps X Y Z mss mSA mSB mSC mSE bs BA BB BC BD l1 l2 l3 c1 c2 c3 r1 r2 r3 v_3.1 v_3.2.1 v_3.2.2)) [0, 1, 2, 3, 4, 5, 6, 7, 8, 9, 10, 11, 12, 13, 14, 15, 16, 17, 18] (by decide) rfl) rfl rfl) rfl rfl hl.1 rfl (lv_room (Nat.le_of_ble_eq_true rfl)) dX3_findEnds_45 ⟨Nat.le_of_ble_eq_true rfl, Nat.le_of_ble_eq_true rfl⟩) hP hD hS hA [0, 1, 2, 3, 4, 5, 6, 7, 8, 9, 10, 11, 12, 13, 14, 15, 16, 17, 18] [] rfl rfl (by decide) (by decide) (fun H locs  hP hD hS => ?_)
        have hP : va_P (gD G) vwCl (wMk G h0 p0 ax ay az s0 sa sb sc se b0 ba bb bc be t1 t2 t3 t4 fi ps X Y Z v_4.1 v_4.2.1 v_4.2.2.1 v_4.2.2.2.1 v_4.2.2.2.2.1 bs BA BB BC BD l1 l2 l3 c1 c2 c3 r1 r2 r3 v_4.2.2.2.2.2.1 v_4.2.2.2.2.2.2.1 v_4.2.2.2.2.2.2.2) H := hP.sub [0, 1, 2, 3, 4, 5, 6, 7, 8, 9, 10, 11, 12, 13, 14, 15, 16, 17, 18] rfl
        have hD : va_D A (wMk G h0 p0 ax ay az s0 sa sb sc se b0 ba bb bc be t1 t2 t3 t4 fi ps X Y Z v_4.1 v_4.2.1 v_4.2.2.1 v_4.2.2.2.1 v_4.2.2.2.2.1 bs BA BB BC BD l1 l2 l3 c1 c2 c3 r1 r2 r3 v_4.2.2.2.2.2.1 v_4.2.2.2.2.2.2.1 v_4.2.2.2.2.2.2.2) := hD.sub [0, 1, 2, 3, 4, 5, 6, 7, 8, 9, 10, 11, 12, 13, 14, 15, 16, 17, 18] (by decide) rfl
        refine lv_iinc (v := a1 + 1) (lv' := [(1, .int (a1 + 1)), (0, .ref h0)]) hx hb dX3_findEnds_48 hl (k := 1) rfl rfl (by decide) rfl (fun ls hl => ?_)
        refine lv_goto (tgt := 11) hx hb dX3_findEnds_51 (by decide) ?_
        exact ih (a1 + 1) v_4.1 v_4.2.1 v_4.2.2.1 v_4.2.2.2.1 v_4.2.2.2.2.1 v_4.2.2.2.2.2.1 v_4.2.2.2.2.2.2.1 v_4.2.2.2.2.2.2.2 _ _ _ hF hP hD hS (lv_sub hl [1, 0] rfl)
  unfold fX3_findEnds at hF
  refine lv_aload_n hx hb dX3_findEnds_0 rfl (lv_at hl 0 rfl) ?_
  refine va_get (ci := 3) (v := .int fi) (C := RX3) (T := TX3) (N := 8) hx hb hts hin3 hown hK hP 0 rfl rfl 7 (by decide) hfl88 (fun _ h9 => h9) rfl dX3_findEnds_1 ?_
  refine lv_iconst (v := 1) hx hb dX3_findEnds_4 (by decide) ?_
  refine lv_icmp_eq (tgt := 9) hx hb dX3_findEnds_5 (by decide) (fun c_1 => ?_) (fun c_1 => ?_)
  · replace hF := it_p c_1 hF
    refine lv_iconst (v := 0) hx hb dX3_findEnds_9 (by decide) ?_
    refine lv_istore_n (lv' := [(1, .int 0), (0, .ref h0)]) hx hb dX3_findEnds_10 rfl hl (by decide) rfl (fun ls hl => ?_)
    exact hL11 FU 0 ss SA SB SC SE f1 f2 f3 _ _ _ hF hP hD hS (lv_sub hl [1, 0] rfl)
  · replace hF := it_n c_1 hF
    exact W.vret hx hb hr (fun t ht hW => ⟨⟨(ss, SA, SB, SC, SE, f1, f2, f3), rfl, so_e hF, qW_mk ht hP hK hW hD⟩, hS.F ht⟩) hS.2.2 dX3_findEnds_8
def LX3_findEdges_26 (fi : Int32) (ps : Int32) (X : Nat → Int32) (Y : Nat → Int32) (Z : Nat → Int32) (r1 : Int32) (r2 : Int32) (r3 : Int32) (k76 : Int32 → Int32 → (Nat → Int32) → (Nat → Int32) → (Nat → Int32) → (Nat → Int32) → Int32 → Int32 → Int32 → Int32 → Int32 → Int32 → Option (Int32 × (Nat → Int32) × (Nat → Int32) × (Nat → Int32) × (Nat → Int32) × Int32 × Int32 × Int32 × Int32 × Int32 × Int32)) : Nat → Int32 → Int32 → Int32 → (Nat → Int32) → (Nat → Int32) → (Nat → Int32) → (Nat → Int32) → Int32 → Int32 → Int32 → Int32 → Int32 → Int32 → Option (Int32 × (Nat → Int32) × (Nat → Int32) × (Nat → Int32) × (Nat → Int32) × Int32 × Int32 × Int32 × Int32 × Int32 × Int32)
  | 0, _, _, _, _, _, _, _, _, _, _, _, _, _ => none
  | k + 1, a1, a2, mss, mSA, mSB, mSC, mSE, ml1, ml2, ml3, mf1, mf2, mf3 =>
  (if ps ≤ a2 then (k76 a1 mss mSA mSB mSC mSE ml1 ml2 ml3 mf1 mf2 mf3) else (bd (fX6_lead 121 ml1 ml2 ml3 X Y Z a1 a2) (fun v_4 => (bd (fX6_square mf1 mf2 mf3 v_4.1 v_4.2.1 v_4.2.2 r1 r2 r3) (fun v_5 => (bd (fX3_trySide ps X Y Z mss mSA mSB mSC mSE v_5.1 v_5.2.1 v_5.2.2 a1) (fun v_6 => (LX3_findEdges_26 fi ps X Y Z r1 r2 r3 k76 k a1 (a2 + 1) v_6.1 v_6.2.1 v_6.2.2.1 v_6.2.2.2.1 v_6.2.2.2.2.1 v_4.1 v_4.2.1 v_4.2.2 v_6.2.2.2.2.2.1 v_6.2.2.2.2.2.2.1 v_6.2.2.2.2.2.2.2))))))))
def LX3_findEdges_11 (fi : Int32) (ps : Int32) (X : Nat → Int32) (Y : Nat → Int32) (Z : Nat → Int32) (r1 : Int32) (r2 : Int32) (r3 : Int32)  : Nat → Int32 → Int32 → (Nat → Int32) → (Nat → Int32) → (Nat → Int32) → (Nat → Int32) → Int32 → Int32 → Int32 → Int32 → Int32 → Int32 → Option (Int32 × (Nat → Int32) × (Nat → Int32) × (Nat → Int32) × (Nat → Int32) × Int32 × Int32 × Int32 × Int32 × Int32 × Int32)
  | 0, _, _, _, _, _, _, _, _, _, _, _, _ => none
  | k + 1, a1, mss, mSA, mSB, mSC, mSE, ml1, ml2, ml3, mf1, mf2, mf3 =>
  (if ps ≤ a1 then (some (mss, mSA, mSB, mSC, mSE, ml1, ml2, ml3, mf1, mf2, mf3)) else (LX3_findEdges_26 fi ps X Y Z r1 r2 r3 (fun a1 mss mSA mSB mSC mSE ml1 ml2 ml3 mf1 mf2 mf3 => (LX3_findEdges_11 fi ps X Y Z r1 r2 r3 k (a1 + 1) mss mSA mSB mSC mSE ml1 ml2 ml3 mf1 mf2 mf3)) FU a1 (a1 + 1) mss mSA mSB mSC mSE ml1 ml2 ml3 mf1 mf2 mf3))
def fX3_findEdges (fi : Int32) (ps : Int32) (X : Nat → Int32) (Y : Nat → Int32) (Z : Nat → Int32) (ss : Int32) (SA : Nat → Int32) (SB : Nat → Int32) (SC : Nat → Int32) (SE : Nat → Int32) (l1 : Int32) (l2 : Int32) (l3 : Int32) (r1 : Int32) (r2 : Int32) (r3 : Int32) (f1 : Int32) (f2 : Int32) (f3 : Int32) : Option (Int32 × (Nat → Int32) × (Nat → Int32) × (Nat → Int32) × (Nat → Int32) × Int32 × Int32 × Int32 × Int32 × Int32 × Int32) :=
  (if fi = 2 then (LX3_findEdges_11 fi ps X Y Z r1 r2 r3 FU 0 ss SA SB SC SE l1 l2 l3 f1 f2 f3) else (some (ss, SA, SB, SC, SE, l1, l2, l3, f1, f2, f3)))
abbrev rX3_findEdges : Room := { frames := 3, cells := 0, slots := 0, locals := 75 }
set_option maxHeartbeats 40000000 in
set_option maxRecDepth 100000 in
theorem kX3_findEdges (l : Launch) (G : GT) (h0 p0 ax ay az s0 sa sb sc se b0 ba bb bc be t1 t2 t3 t4 : Nat) (sz : Nat) (fi : Int32) (ps : Int32) (X : Nat → Int32) (Y : Nat → Int32) (Z : Nat → Int32) (ss : Int32) (SA : Nat → Int32) (SB : Nat → Int32) (SC : Nat → Int32) (SE : Nat → Int32) (bs : Int32) (BA : Nat → Int32) (BB : Nat → Int32) (BC : Nat → Int32) (BD : Nat → Int32) (l1 : Int32) (l2 : Int32) (l3 : Int32) (c1 : Int32) (c2 : Int32) (c3 : Int32) (r1 : Int32) (r2 : Int32) (r3 : Int32) (f1 : Int32) (f2 : Int32) (f3 : Int32) (res : Int32 × (Nat → Int32) × (Nat → Int32) × (Nat → Int32) × (Nat → Int32) × Int32 × Int32 × Int32 × Int32 × Int32 × Int32) (hF : fX3_findEdges fi ps X Y Z ss SA SB SC SE l1 l2 l3 r1 r2 r3 f1 f2 f3 = some res) : Met l yX3_findEdges wsX3_findEdges rX3_findEdges (va_Pc [.ref h0] (pW G sz (wMk G h0 p0 ax ay az s0 sa sb sc se b0 ba bb bc be t1 t2 t3 t4 fi ps X Y Z ss SA SB SC SE bs BA BB BC BD l1 l2 l3 c1 c2 c3 r1 r2 r3 f1 f2 f3))) (va_Qv (fun (u : Int32 × (Nat → Int32) × (Nat → Int32) × (Nat → Int32) × (Nat → Int32) × Int32 × Int32 × Int32 × Int32 × Int32 × Int32) => u = res) (fun u t => qW G (va_A (wMk G h0 p0 ax ay az s0 sa sb sc se b0 ba bb bc be t1 t2 t3 t4 fi ps X Y Z ss SA SB SC SE bs BA BB BC BD l1 l2 l3 c1 c2 c3 r1 r2 r3 f1 f2 f3) sz) (wMk G h0 p0 ax ay az s0 sa sb sc se b0 ba bb bc be t1 t2 t3 t4 fi ps X Y Z u.1 u.2.1 u.2.2.1 u.2.2.2.1 u.2.2.2.2.1 bs BA BB BC BD u.2.2.2.2.2.1 u.2.2.2.2.2.2.1 u.2.2.2.2.2.2.2.1 c1 c2 c3 r1 r2 r3 u.2.2.2.2.2.2.2.2.1 u.2.2.2.2.2.2.2.2.2.1 u.2.2.2.2.2.2.2.2.2.2) t) (va_A (wMk G h0 p0 ax ay az s0 sa sb sc se b0 ba bb bc be t1 t2 t3 t4 fi ps X Y Z ss SA SB SC SE bs BA BB BC BD l1 l2 l3 c1 c2 c3 r1 r2 r3 f1 f2 f3) sz)) 0 0 (va_A (wMk G h0 p0 ax ay az s0 sa sb sc se b0 ba bb bc be t1 t2 t3 t4 fi ps X Y Z ss SA SB SC SE bs BA BB BC BD l1 l2 l3 c1 c2 c3 r1 r2 r3 f1 f2 f3) sz) := by
  refine Met.ofW (cc := cX3_findEdges) (maxL := 3) (ret := none) (by decide) rfl ?_
  intro p e s m args below meth c s₁ B hml hv
  obtain ⟨rfl, hsz, hP, hK, hD0⟩ := hv
  have hx := B.exec
  have hb := B.bytes
  have hr := B.returns
  have hts := atoms_spec (ws := wsX3_findEdges) B.pre
  have hown : s.vm.findClass RX3 = some m.cls := findClass_of_methodNamed B.named
  have hlocks := B.notSynchronized
  subst hsz
  have hD := hD0.self (sz := s.heap.size)
  generalize hAe : va_A (wMk G h0 p0 ax ay az s0 sa sb sc se b0 ba bb bc be t1 t2 t3 t4 fi ps X Y Z ss SA SB SC SE bs BA BB BC BD l1 l2 l3 c1 c2 c3 r1 r2 r3 f1 f2 f3) s.heap.size = A at hD ⊢
  have hA : ∀ q : Nat, s.heap.size ≤ q → A q := fun q h => by rw [← hAe]; exact Or.inr h
  have hS : va_S A s.heap s.heap [] := va_S.rf
  have hin3 : ∀ w ∈ u_ws RX3 TX3 8, w ∈ wsX3_findEdges := by decide +kernel
  have hfl88 := hts (.fieldLink RX3 88 "SwellBodies$Maker" "fills" "I") (by decide +kernel)
  have hfl14 := hts (.fieldLink RX3 14 "SwellBodies$Maker" "points" "LSwellBodies$Points;") (by decide +kernel)
  have hin4 : ∀ w ∈ u_ws RX4 TX4 4, w ∈ wsX3_findEdges := by decide +kernel
  have hfl46 := hts (.fieldLink RX3 46 "SwellBodies$Points" "size" "I") (by decide +kernel)
  have hfl33 := hts (.fieldLink RX3 33 "SwellBodies$Maker" "along" "LSwellBodies$Step;") (by decide +kernel)
  have hfl43 := hts (.fieldLink RX3 43 "SwellBodies$Maker" "facing" "LSwellBodies$Step;") (by decide +kernel)
  have hfl40 := hts (.fieldLink RX3 40 "SwellBodies$Maker" "square" "LSwellBodies$Step;") (by decide +kernel)
  have hl := lv_entry ([.ref h0]) (n := 3) (Nat.le_of_ble_eq_true rfl)
  rw [lg_entry_eq]
  generalize (lg_sl ([.ref h0]) ++ List.replicate (3 - (lg_sl ([.ref h0])).length) Slot.unset).toArray = ls at hl ⊢
  have hl : lv_has ls 3 [(0, .ref h0)] := hl
  have hL26 : ∀ (k76 : Int32 → Int32 → (Nat → Int32) → (Nat → Int32) → (Nat → Int32) → (Nat → Int32) → Int32 → Int32 → Int32 → Int32 → Int32 → Int32 → Option (Int32 × (Nat → Int32) × (Nat → Int32) × (Nat → Int32) × (Nat → Int32) × Int32 × Int32 × Int32 × Int32 × Int32 × Int32)), (∀ (a1 : Int32) (mss : Int32) (mSA : Nat → Int32) (mSB : Nat → Int32) (mSC : Nat → Int32) (mSE : Nat → Int32) (ml1 : Int32) (ml2 : Int32) (ml3 : Int32) (mf1 : Int32) (mf2 : Int32) (mf3 : Int32) (H : Heap) (locs : List Loc) (ls : Array Slot), k76 a1 mss mSA mSB mSC mSE ml1 ml2 ml3 mf1 mf2 mf3 = some res → va_P (gD G) vwCl (wMk G h0 p0 ax ay az s0 sa sb sc se b0 ba bb bc be t1 t2 t3 t4 fi ps X Y Z mss mSA mSB mSC mSE bs BA BB BC BD ml1 ml2 ml3 c1 c2 c3 r1 r2 r3 mf1 mf2 mf3) H → va_D A (wMk G h0 p0 ax ay az s0 sa sb sc se b0 ba bb bc be t1 t2 t3 t4 fi ps X Y Z mss mSA mSB mSC mSE bs BA BB BC BD ml1 ml2 ml3 c1 c2 c3 r1 r2 r3 mf1 mf2 mf3) → va_S A s.heap H locs → lv_has ls 3 [(0, .ref h0), (1, .int a1)] → W p l e (headSpec wsX3_findEdges rX3_findEdges).room s m ([.ref h0] : List Value).toArray below meth c H locs 0 0 (MQ below (va_Qv (fun (u : Int32 × (Nat → Int32) × (Nat → Int32) × (Nat → Int32) × (Nat → Int32) × Int32 × Int32 × Int32 × Int32 × Int32 × Int32) => u = res) (fun u t => qW G A (wMk G h0 p0 ax ay az s0 sa sb sc se b0 ba bb bc be t1 t2 t3 t4 fi ps X Y Z u.1 u.2.1 u.2.2.1 u.2.2.2.1 u.2.2.2.2.1 bs BA BB BC BD u.2.2.2.2.2.1 u.2.2.2.2.2.2.1 u.2.2.2.2.2.2.2.1 c1 c2 c3 r1 r2 r3 u.2.2.2.2.2.2.2.2.1 u.2.2.2.2.2.2.2.2.2.1 u.2.2.2.2.2.2.2.2.2.2) t) A) ([.ref h0] : List Value).toArray s 0 0 A) (F0 m 76 ls [])) → ∀ (k : Nat), ∀ (a1 : Int32) (a2 : Int32) (mss : Int32) (mSA : Nat → Int32) (mSB : Nat → Int32) (mSC : Nat → Int32) (mSE : Nat → Int32) (ml1 : Int32) (ml2 : Int32) (ml3 : Int32) (mf1 : Int32) (mf2 : Int32) (mf3 : Int32) (H : Heap) (locs : List Loc) (ls : Array Slot), LX3_findEdges_26 fi ps X Y Z r1 r2 r3 k76 k a1 a2 mss mSA mSB mSC mSE ml1 ml2 ml3 mf1 mf2 mf3 = some res → va_P (gD G) vwCl (wMk G h0 p0 ax ay az s0 sa sb sc se b0 ba bb bc be t1 t2 t3 t4 fi ps X Y Z mss mSA mSB mSC mSE bs BA BB BC BD ml1 ml2 ml3 c1 c2 c3 r1 r2 r3 mf1 mf2 mf3) H → va_D A (wMk G h0 p0 ax ay az s0 sa sb sc se b0 ba bb bc be t1 t2 t3 t4 fi ps X Y Z mss mSA mSB mSC mSE bs BA BB BC BD ml1 ml2 ml3 c1 c2 c3 r1 r2 r3 mf1 mf2 mf3) → va_S A s.heap H locs → lv_has ls 3 [(0, .ref h0), (1, .int a1), (2, .int a2)] → W p l e (headSpec wsX3_findEdges rX3_findEdges).room s m ([.ref h0] : List Value).toArray below meth c H locs 0 0 (MQ below (va_Qv (fun (u : Int32 × (Nat → Int32) × (Nat → Int32) × (Nat → Int32) × (Nat → Int32) × Int32 × Int32 × Int32 × Int32 × Int32 × Int32) => u = res) (fun u t => qW G A (wMk G h0 p0 ax ay az s0 sa sb sc se b0 ba bb bc be t1 t2 t3 t4 fi ps X Y Z u.1 u.2.1 u.2.2.1 u.2.2.2.1 u.2.2.2.2.1 bs BA BB BC BD u.2.2.2.2.2.1 u.2.2.2.2.2.2.1 u.2.2.2.2.2.2.2.1 c1 c2 c3 r1 r2 r3 u.2.2.2.2.2.2.2.2.1 u.2.2.2.2.2.2.2.2.2.1 u.2.2.2.2.2.2.2.2.2.2) t) A) ([.ref h0] : List Value).toArray s 0 0 A) (F0 m 26 ls []) := by
    intro k76 hk76
    intro k
    induction k with
    | zero =>
      intro a1 a2 mss mSA mSB mSC mSE ml1 ml2 ml3 mf1 mf2 mf3 H locs ls hF hP hD hS hl
      rw [LX3_findEdges_26] at hF
      cases hF
    | succ k ih =>
      intro a1 a2 mss mSA mSB mSC mSE ml1 ml2 ml3 mf1 mf2 mf3 H locs ls hF hP hD hS hl
      rw [LX3_findEdges_26] at hF
      refine lv_iload_n hx hb dX3_findEdges_26 rfl (lv_at hl 2 rfl) ?_
      refine lv_aload_n hx hb dX3_findEdges_27 rfl (lv_at hl 0 rfl) ?_
      refine va_get (ci := 3) (v := .ref p0) (C := RX3) (T := TX3) (N := 8) hx hb hts hin3 hown hK hP 0 rfl rfl 0 (by decide) hfl14 (fun _ h9 => h9) rfl dX3_findEdges_28 ?_
      refine va_get (ci := 4) (v := .int ps) (C := RX4) (T := TX4) (N := 4) hx hb hts hin4 hown hK hP 1 rfl rfl 3 (by decide) hfl46 (fun _ h9 => h9) rfl dX3_findEdges_31 ?_
      refine lv_icmp_ge (tgt := 76) hx hb dX3_findEdges_34 (by decide) (fun c_3 => ?_) (fun c_3 => ?_)
      · replace hF := it_p c_3 hF
        exact hk76 a1 mss mSA mSB mSC mSE ml1 ml2 ml3 mf1 mf2 mf3 _ _ _ hF hP hD hS (lv_sub hl [0, 1] rfl)
      · replace hF := it_n c_3 hF
        refine lv_aload_n hx hb dX3_findEdges_37 rfl (lv_at hl 0 rfl) ?_
        refine va_get (ci := 3) (v := .ref t1) (C := RX3) (T := TX3) (N := 8) hx hb hts hin3 hown hK hP 0 rfl rfl 3 (by decide) hfl33 (fun _ h9 => h9) rfl dX3_findEdges_38 ?_
        refine lv_aload_n hx hb dX3_findEdges_41 rfl (lv_at hl 0 rfl) ?_
        refine va_get (ci := 3) (v := .ref p0) (C := RX3) (T := TX3) (N := 8) hx hb hts hin3 hown hK hP 0 rfl rfl 0 (by decide) hfl14 (fun _ h9 => h9) rfl dX3_findEdges_42 ?_
        refine lv_iload_n hx hb dX3_findEdges_45 rfl (lv_at hl 1 rfl) ?_
        refine lv_iload_n hx hb dX3_findEdges_46 rfl (lv_at hl 2 rfl) ?_
        obtain ⟨v_4, hv_4, hF⟩ := bd_s hF
        refine rw_ve (wf := (fun (u : Int32 × Int32 × Int32) => (wStpPt G t1 p0 ax ay az 121 u.1 u.2.1 u.2.2 ps X Y Z))) (wr := [(h0, .inr (3, [.ref p0, .ref s0, .ref b0, .ref t1, .ref t2, .ref t3, .ref t4, .int fi])), (s0, .inr (1, [.ref sa, .ref sb, .ref sc, .ref se, .int mss])), (sa, .inl (gI G, 80, .inl mSA)), (sb, .inl (gI G, 80, .inl mSB)), (sc, .inl (gI G, 80, .inl mSC)), (se, .inl (gI G, 80, .inl mSE)), (b0, .inr (1, [.ref ba, .ref bb, .ref bc, .ref be, .int bs])), (ba, .inl (gI G, 3, .inl BA)), (bb, .inl (gI G, 3, .inl BB)), (bc, .inl (gI G, 3, .inl BC)), (be, .inl (gI G, 3, .inl BD)), (t2, .inr (6, [.int c1, .int c2, .int c3])), (t3, .inr (6, [.int r1, .int r2, .int r3])), (t4, .inr (6, [.int mf1, .int mf2, .int mf3]))]) (va_runV (As := [.ref p0, .int a1, .int a2]) (rest := []) ⟨hx, hb, hml, hown, hts⟩ (kX6_lead l G t1 p0 ax ay az H.size 121 ml1 ml2 ml3 ps X Y Z a1 a2 v_4 hv_4) (cwV 3 hts gX3_findEdges_X6_lead rfl rfl rfl (by decide +kernel) ⟨Nat.le_of_ble_eq_true rfl, Nat.le_of_ble_eq_true rfl⟩) (pvW (q0 := 0) 6 hK (hP.sub (ws' := (wStpPt G t1 p0 ax ay az 121 ml1 ml2 ml3 ps X Y Z)) [15, 1, 2, 3, 4] rfl) (hD.sub (ws' := (wStpPt G t1 p0 ax ay az 121 ml1 ml2 ml3 ps X Y Z)) [15, 1, 2, 3, 4] (by decide) rfl) rfl rfl) rfl rfl hl.1 rfl (lv_room (Nat.le_of_ble_eq_true rfl)) dX3_findEdges_47 ⟨Nat.le_of_ble_eq_true rfl, Nat.le_of_ble_eq_true rfl⟩) hP hD hS hA [15, 1, 2, 3, 4] [0, 5, 6, 7, 8, 9, 10, 11, 12, 13, 14, 16, 17, 18] rfl rfl (by decide) (by decide) (fun H locs  hP hD hS => ?_)
        have hP : va_P (gD G) vwCl (wMk G h0 p0 ax ay az s0 sa sb sc se b0 ba bb bc be t1 t2 t3 t4 fi ps X Y Z mss mSA mSB mSC mSE bs BA BB BC BD v_4.1 v_4.2.1 v_4.2.2 c1 c2 c3 r1 r2 r3 mf1 mf2 mf3) H := hP.sub [0, 15, 16, 17, 18, 1, 2, 3, 4, 5, 6, 7, 8, 9, 10, 14, 11, 12, 13] rfl
        have hD : va_D A (wMk G h0 p0 ax ay az s0 sa sb sc se b0 ba bb bc be t1 t2 t3 t4 fi ps X Y Z mss mSA mSB mSC mSE bs BA BB BC BD v_4.1 v_4.2.1 v_4.2.2 c1 c2 c3 r1 r2 r3 mf1 mf2 mf3) := hD.sub [0, 15, 16, 17, 18, 1, 2, 3, 4, 5, 6, 7, 8, 9, 10, 14, 11, 12, 13] (by decide) rfl
        refine lv_aload_n hx hb dX3_findEdges_50 rfl (lv_at hl 0 rfl) ?_
        refine va_get (ci := 3) (v := .ref t4) (C := RX3) (T := TX3) (N := 8) hx hb hts hin3 hown hK hP 0 rfl rfl 6 (by decide) hfl43 (fun _ h9 => h9) rfl dX3_findEdges_51 ?_
        refine lv_aload_n hx hb dX3_findEdges_54 rfl (lv_at hl 0 rfl) ?_
        refine va_get (ci := 3) (v := .ref t1) (C := RX3) (T := TX3) (N := 8) hx hb hts hin3 hown hK hP 0 rfl rfl 3 (by decide) hfl33 (fun _ h9 => h9) rfl dX3_findEdges_55 ?_
        refine lv_aload_n hx hb dX3_findEdges_58 rfl (lv_at hl 0 rfl) ?_
        refine va_get (ci := 3) (v := .ref t3) (C := RX3) (T := TX3) (N := 8) hx hb hts hin3 hown hK hP 0 rfl rfl 5 (by decide) hfl40 (fun _ h9 => h9) rfl dX3_findEdges_59 ?_
        obtain ⟨v_5, hv_5, hF⟩ := bd_s hF
        refine rw_ve (wf := (fun (u : Int32 × Int32 × Int32) => (wStp3 G t4 t1 t3 u.1 u.2.1 u.2.2 v_4.1 v_4.2.1 v_4.2.2 r1 r2 r3))) (wr := [(h0, .inr (3, [.ref p0, .ref s0, .ref b0, .ref t1, .ref t2, .ref t3, .ref t4, .int fi])), (p0, .inr (4, [.ref ax, .ref ay, .ref az, .int ps])), (ax, .inl (gI G, 121, .inl X)), (ay, .inl (gI G, 121, .inl Y)), (az, .inl (gI G, 121, .inl Z)), (s0, .inr (1, [.ref sa, .ref sb, .ref sc, .ref se, .int mss])), (sa, .inl (gI G, 80, .inl mSA)), (sb, .inl (gI G, 80, .inl mSB)), (sc, .inl (gI G, 80, .inl mSC)), (se, .inl (gI G, 80, .inl mSE)), (b0, .inr (1, [.ref ba, .ref bb, .ref bc, .ref be, .int bs])), (ba, .inl (gI G, 3, .inl BA)), (bb, .inl (gI G, 3, .inl BB)), (bc, .inl (gI G, 3, .inl BC)), (be, .inl (gI G, 3, .inl BD)), (t2, .inr (6, [.int c1, .int c2, .int c3]))]) (va_runV (As := [.ref t1, .ref t3]) (rest := []) ⟨hx, hb, hml, hown, hts⟩ (kX6_square l G t4 t1 t3 H.size mf1 mf2 mf3 v_4.1 v_4.2.1 v_4.2.2 r1 r2 r3 v_5 hv_5) (cwV 2 hts gX3_findEdges_X6_square rfl rfl rfl (by decide +kernel) ⟨Nat.le_of_ble_eq_true rfl, Nat.le_of_ble_eq_true rfl⟩) (pvW (q0 := 0) 6 hK (hP.sub (ws' := (wStp3 G t4 t1 t3 mf1 mf2 mf3 v_4.1 v_4.2.1 v_4.2.2 r1 r2 r3)) [18, 15, 17] rfl) (hD.sub (ws' := (wStp3 G t4 t1 t3 mf1 mf2 mf3 v_4.1 v_4.2.1 v_4.2.2 r1 r2 r3)) [18, 15, 17] (by decide) rfl) rfl rfl) rfl rfl hl.1 rfl (lv_room (Nat.le_of_ble_eq_true rfl)) dX3_findEdges_62 ⟨Nat.le_of_ble_eq_true rfl, Nat.le_of_ble_eq_true rfl⟩) hP hD hS hA [18, 15, 17] [0, 1, 2, 3, 4, 5, 6, 7, 8, 9, 10, 11, 12, 13, 14, 16] rfl rfl (by decide) (by decide) (fun H locs  hP hD hS => ?_)
        have hP : va_P (gD G) vwCl (wMk G h0 p0 ax ay az s0 sa sb sc se b0 ba bb bc be t1 t2 t3 t4 fi ps X Y Z mss mSA mSB mSC mSE bs BA BB BC BD v_4.1 v_4.2.1 v_4.2.2 c1 c2 c3 r1 r2 r3 v_5.1 v_5.2.1 v_5.2.2) H := hP.sub [0, 1, 2, 3, 4, 5, 6, 7, 8, 9, 10, 11, 12, 13, 14, 17, 15, 18, 16] rfl
        have hD : va_D A (wMk G h0 p0 ax ay az s0 sa sb sc se b0 ba bb bc be t1 t2 t3 t4 fi ps X Y Z mss mSA mSB mSC mSE bs BA BB BC BD v_4.1 v_4.2.1 v_4.2.2 c1 c2 c3 r1 r2 r3 v_5.1 v_5.2.1 v_5.2.2) := hD.sub [0, 1, 2, 3, 4, 5, 6, 7, 8, 9, 10, 11, 12, 13, 14, 17, 15, 18, 16] (by decide) rfl
        refine lv_aload_n hx hb dX3_findEdges_65 rfl (lv_at hl 0 rfl) ?_
        refine lv_iload_n hx hb dX3_findEdges_66 rfl (lv_at hl 1 rfl) ?_
        obtain ⟨v_6, hv_6, hF⟩ := bd_s hF
        refine rw_ve (wf := (fun (u : Int32 × (Nat → Int32) × (Nat → Int32) × (Nat → Int32) × (Nat → Int32) × Int32 × Int32 × Int32) => (wMk G h0 p0 ax ay az s0 sa sb sc se b0 ba bb bc be t1 t2 t3 t4 fi ps X Y Z u.1 u.2.1 u.2.2.1 u.2.2.2.1 u.2.2.2.2.1 bs BA BB BC BD v_4.1 v_4.2.1 v_4.2.2 c1 c2 c3 r1 r2 r3 u.2.2.2.2.2.1 u.2.2.2.2.2.2.1 u.2.2.2.2.2.2.2))) (wr := []) (va_runV (As := [.int a1]) (rest := []) ⟨hx, hb, hml, hown, hts⟩ (kX3_trySide l G h0 p0 ax ay az s0 sa sb sc se b0 ba bb bc be t1 t2 t3 t4 H.size fi ps X Y Z mss mSA mSB mSC mSE bs BA BB BC BD v_4.1 v_4.2.1 v_4.2.2 c1 c2 c3 r1 r2 r3 v_5.1 v_5.2.1 v_5.2.2 a1 v_6 hv_6) (cwV 1 hts gX3_findEdges_X3_trySide rfl rfl rfl (by decide +kernel) ⟨Nat.le_of_ble_eq_true rfl, Nat.le_of_ble_eq_true rfl⟩) (pvW (q0 := 0) 3 hK (hP.sub (ws' := (wMk G h0 p0 ax ay az s0 sa sb sc se b0 ba bb bc be t1 t2 t3 t4 fi ps X Y Z mss mSA mSB mSC mSE bs BA BB BC BD v_4.1 v_4.2.1 v_4.2.2 c1 c2 c3 r1 r2 r3 v_5.1 v_5.2.1 v_5.2.2)) [0, 1, 2, 3, 4, 5, 6, 7, 8, 9, 10, 11, 12, 13, 14, 15, 16, 17, 18] rfl) (hD.sub (ws' := (wMk G h0 p0 ax ay az s0 sa sb sc se b0 ba bb bc be t1 t2 t3 t4 fi ps X Y Z mss mSA mSB mSC mSE bs BA BB BC BD v_4.1 v_4.2.1 v_4.2.2 c1 c2 c3 r1 r2 r3 v_5.1 v_5.2.1 v_5.2.2)) [0, 1, 2, 3, 4, 5, 6, 7, 8, 9, 10, 11, 12, 13, 14, 15, 16, 17, 18] (by decide) rfl) rfl rfl) rfl rfl hl.1 rfl (lv_room (Nat.le_of_ble_eq_true rfl)) dX3_findEdges_67 ⟨Nat.le_of_ble_eq_true rfl, Nat.le_of_ble_eq_true rfl⟩) hP hD hS hA [0, 1, 2, 3, 4, 5, 6, 7, 8, 9, 10, 11, 12, 13, 14, 15, 16, 17, 18] [] rfl rfl (by decide) (by decide) (fun H locs  hP hD hS => ?_)
        have hP : va_P (gD G) vwCl (wMk G h0 p0 ax ay az s0 sa sb sc se b0 ba bb bc be t1 t2 t3 t4 fi ps X Y Z v_6.1 v_6.2.1 v_6.2.2.1 v_6.2.2.2.1 v_6.2.2.2.2.1 bs BA BB BC BD v_4.1 v_4.2.1 v_4.2.2 c1 c2 c3 r1 r2 r3 v_6.2.2.2.2.2.1 v_6.2.2.2.2.2.2.1 v_6.2.2.2.2.2.2.2) H := hP.sub [0, 1, 2, 3, 4, 5, 6, 7, 8, 9, 10, 11, 12, 13, 14, 15, 16, 17, 18] rfl
        have hD : va_D A (wMk G h0 p0 ax ay az s0 sa sb sc se b0 ba bb bc be t1 t2 t3 t4 fi ps X Y Z v_6.1 v_6.2.1 v_6.2.2.1 v_6.2.2.2.1 v_6.2.2.2.2.1 bs BA BB BC BD v_4.1 v_4.2.1 v_4.2.2 c1 c2 c3 r1 r2 r3 v_6.2.2.2.2.2.1 v_6.2.2.2.2.2.2.1 v_6.2.2.2.2.2.2.2) := hD.sub [0, 1, 2, 3, 4, 5, 6, 7, 8, 9, 10, 11, 12, 13, 14, 15, 16, 17, 18] (by decide) rfl
        refine lv_iinc (v := a2 + 1) (lv' := [(2, .int (a2 + 1)), (0, .ref h0), (1, .int a1)]) hx hb dX3_findEdges_70 hl (k := 2) rfl rfl (by decide) rfl (fun ls hl => ?_)
        refine lv_goto (tgt := 26) hx hb dX3_findEdges_73 (by decide) ?_
        exact ih a1 (a2 + 1) v_6.1 v_6.2.1 v_6.2.2.1 v_6.2.2.2.1 v_6.2.2.2.2.1 v_4.1 v_4.2.1 v_4.2.2 v_6.2.2.2.2.2.1 v_6.2.2.2.2.2.2.1 v_6.2.2.2.2.2.2.2 _ _ _ hF hP hD hS (lv_sub hl [1, 2, 0] rfl)
  have hL11 : ∀ (k : Nat), ∀ (a1 : Int32) (mss : Int32) (mSA : Nat → Int32) (mSB : Nat → Int32) (mSC : Nat → Int32) (mSE : Nat → Int32) (ml1 : Int32) (ml2 : Int32) (ml3 : Int32) (mf1 : Int32) (mf2 : Int32) (mf3 : Int32) (H : Heap) (locs : List Loc) (ls : Array Slot), LX3_findEdges_11 fi ps X Y Z r1 r2 r3 k a1 mss mSA mSB mSC mSE ml1 ml2 ml3 mf1 mf2 mf3 = some res → va_P (gD G) vwCl (wMk G h0 p0 ax ay az s0 sa sb sc se b0 ba bb bc be t1 t2 t3 t4 fi ps X Y Z mss mSA mSB mSC mSE bs BA BB BC BD ml1 ml2 ml3 c1 c2 c3 r1 r2 r3 mf1 mf2 mf3) H → va_D A (wMk G h0 p0 ax ay az s0 sa sb sc se b0 ba bb bc be t1 t2 t3 t4 fi ps X Y Z mss mSA mSB mSC mSE bs BA BB BC BD ml1 ml2 ml3 c1 c2 c3 r1 r2 r3 mf1 mf2 mf3) → va_S A s.heap H locs → lv_has ls 3 [(0, .ref h0), (1, .int a1)] → W p l e (headSpec wsX3_findEdges rX3_findEdges).room s m ([.ref h0] : List Value).toArray below meth c H locs 0 0 (MQ below (va_Qv (fun (u : Int32 × (Nat → Int32) × (Nat → Int32) × (Nat → Int32) × (Nat → Int32) × Int32 × Int32 × Int32 × Int32 × Int32 × Int32) => u = res) (fun u t => qW G A (wMk G h0 p0 ax ay az s0 sa sb sc se b0 ba bb bc be t1 t2 t3 t4 fi ps X Y Z u.1 u.2.1 u.2.2.1 u.2.2.2.1 u.2.2.2.2.1 bs BA BB BC BD u.2.2.2.2.2.1 u.2.2.2.2.2.2.1 u.2.2.2.2.2.2.2.1 c1 c2 c3 r1 r2 r3 u.2.2.2.2.2.2.2.2.1 u.2.2.2.2.2.2.2.2.2.1 u.2.2.2.2.2.2.2.2.2.2) t) A) ([.ref h0] : List Value).toArray s 0 0 A) (F0 m 11 ls []) := by
    intro k
    induction k with
    | zero =>
      intro a1 mss mSA mSB mSC mSE ml1 ml2 ml3 mf1 mf2 mf3 H locs ls hF hP hD hS hl
      rw [LX3_findEdges_11] at hF
      cases hF
    | succ k ih =>
      intro a1 mss mSA mSB mSC mSE ml1 ml2 ml3 mf1 mf2 mf3 H locs ls hF hP hD hS hl
      rw [LX3_findEdges_11] at hF
      refine lv_iload_n hx hb dX3_findEdges_11 rfl (lv_at hl 1 rfl) ?_
      refine lv_aload_n hx hb dX3_findEdges_12 rfl (lv_at hl 0 rfl) ?_
      refine va_get (ci := 3) (v := .ref p0) (C := RX3) (T := TX3) (N := 8) hx hb hts hin3 hown hK hP 0 rfl rfl 0 (by decide) hfl14 (fun _ h9 => h9) rfl dX3_findEdges_13 ?_
      refine va_get (ci := 4) (v := .int ps) (C := RX4) (T := TX4) (N := 4) hx hb hts hin4 hown hK hP 1 rfl rfl 3 (by decide) hfl46 (fun _ h9 => h9) rfl dX3_findEdges_16 ?_
      refine lv_icmp_ge (tgt := 82) hx hb dX3_findEdges_19 (by decide) (fun c_2 => ?_) (fun c_2 => ?_)
      · replace hF := it_p c_2 hF
        exact W.vret hx hb hr (fun t ht hW => ⟨⟨(mss, mSA, mSB, mSC, mSE, ml1, ml2, ml3, mf1, mf2, mf3), rfl, so_e hF, qW_mk ht hP hK hW hD⟩, hS.F ht⟩) hS.2.2 dX3_findEdges_82
      · replace hF := it_n c_2 hF
        refine lv_iload_n hx hb dX3_findEdges_22 rfl (lv_at hl 1 rfl) ?_
        refine lv_iconst (v := 1) hx hb dX3_findEdges_23 (by decide) ?_
        refine lv_iadd hx hb dX3_findEdges_24 ?_
        refine lv_istore_n (lv' := [(2, .int (a1 + 1)), (0, .ref h0), (1, .int a1)]) hx hb dX3_findEdges_25 rfl hl (by decide) rfl (fun ls hl => ?_)
        refine hL26 _ ?_ FU a1 (a1 + 1) mss mSA mSB mSC mSE ml1 ml2 ml3 mf1 mf2 mf3 _ _ _ hF hP hD hS (lv_sub hl [1, 2, 0] rfl)
        · intro a1 mss mSA mSB mSC mSE ml1 ml2 ml3 mf1 mf2 mf3 H locs ls hF hP hD hS hl
          refine lv_iinc (v := a1 + 1) (lv' := [(1, .int (a1 + 1)), (0, .ref h0)]) hx hb dX3_findEdges_76 hl (k := 1) rfl rfl (by decide) rfl (fun ls hl => ?_)
          refine lv_goto (tgt := 11) hx hb dX3_findEdges_79 (by decide) ?_
          exact ih (a1 + 1) mss mSA mSB mSC mSE ml1 ml2 ml3 mf1 mf2 mf3 _ _ _ hF hP hD hS (lv_sub hl [1, 0] rfl)
  unfold fX3_findEdges at hF
  refine lv_aload_n hx hb dX3_findEdges_0 rfl (lv_at hl 0 rfl) ?_
  refine va_get (ci := 3) (v := .int fi) (C := RX3) (T := TX3) (N := 8) hx hb hts hin3 hown hK hP 0 rfl rfl 7 (by decide) hfl88 (fun _ h9 => h9) rfl dX3_findEdges_1 ?_
  refine lv_iconst (v := 2) hx hb dX3_findEdges_4 (by decide) ?_
  refine lv_icmp_eq (tgt := 9) hx hb dX3_findEdges_5 (by decide) (fun c_1 => ?_) (fun c_1 => ?_)
  · replace hF := it_p c_1 hF
    refine lv_iconst (v := 0) hx hb dX3_findEdges_9 (by decide) ?_
    refine lv_istore_n (lv' := [(1, .int 0), (0, .ref h0)]) hx hb dX3_findEdges_10 rfl hl (by decide) rfl (fun ls hl => ?_)
    exact hL11 FU 0 ss SA SB SC SE l1 l2 l3 f1 f2 f3 _ _ _ hF hP hD hS (lv_sub hl [1, 0] rfl)
  · replace hF := it_n c_1 hF
    exact W.vret hx hb hr (fun t ht hW => ⟨⟨(ss, SA, SB, SC, SE, l1, l2, l3, f1, f2, f3), rfl, so_e hF, qW_mk ht hP hK hW hD⟩, hS.F ht⟩) hS.2.2 dX3_findEdges_8
def LX3_findFaces_54 (fi : Int32) (ps : Int32) (X : Nat → Int32) (Y : Nat → Int32) (Z : Nat → Int32) (k104 : Int32 → Int32 → Int32 → (Nat → Int32) → (Nat → Int32) → (Nat → Int32) → (Nat → Int32) → Int32 → Int32 → Int32 → Int32 → Int32 → Int32 → Int32 → Int32 → Int32 → Option (Int32 × (Nat → Int32) × (Nat → Int32) × (Nat → Int32) × (Nat → Int32) × Int32 × Int32 × Int32 × Int32 × Int32 × Int32 × Int32 × Int32 × Int32)) : Nat → Int32 → Int32 → Int32 → Int32 → (Nat → Int32) → (Nat → Int32) → (Nat → Int32) → (Nat → Int32) → Int32 → Int32 → Int32 → Int32 → Int32 → Int32 → Int32 → Int32 → Int32 → Option (Int32 × (Nat → Int32) × (Nat → Int32) × (Nat → Int32) × (Nat → Int32) × Int32 × Int32 × Int32 × Int32 × Int32 × Int32 × Int32 × Int32 × Int32)
  | 0, _, _, _, _, _, _, _, _, _, _, _, _, _, _, _, _, _ => none
  | k + 1, a1, a2, a3, mss, mSA, mSB, mSC, mSE, ml1, ml2, ml3, mc1, mc2, mc3, mf1, mf2, mf3 =>
  (if ps ≤ a3 then (k104 a1 a2 mss mSA mSB mSC mSE ml1 ml2 ml3 mc1 mc2 mc3 mf1 mf2 mf3) else (bd (fX6_lead 121 mc1 mc2 mc3 X Y Z a1 a3) (fun v_6 => (bd (fX6_square mf1 mf2 mf3 ml1 ml2 ml3 v_6.1 v_6.2.1 v_6.2.2) (fun v_7 => (bd (fX3_trySide ps X Y Z mss mSA mSB mSC mSE v_7.1 v_7.2.1 v_7.2.2 a1) (fun v_8 => (LX3_findFaces_54 fi ps X Y Z k104 k a1 a2 (a3 + 1) v_8.1 v_8.2.1 v_8.2.2.1 v_8.2.2.2.1 v_8.2.2.2.2.1 ml1 ml2 ml3 v_6.1 v_6.2.1 v_6.2.2 v_8.2.2.2.2.2.1 v_8.2.2.2.2.2.2.1 v_8.2.2.2.2.2.2.2))))))))
def LX3_findFaces_26 (fi : Int32) (ps : Int32) (X : Nat → Int32) (Y : Nat → Int32) (Z : Nat → Int32) (k110 : Int32 → Int32 → (Nat → Int32) → (Nat → Int32) → (Nat → Int32) → (Nat → Int32) → Int32 → Int32 → Int32 → Int32 → Int32 → Int32 → Int32 → Int32 → Int32 → Option (Int32 × (Nat → Int32) × (Nat → Int32) × (Nat → Int32) × (Nat → Int32) × Int32 × Int32 × Int32 × Int32 × Int32 × Int32 × Int32 × Int32 × Int32)) : Nat → Int32 → Int32 → Int32 → (Nat → Int32) → (Nat → Int32) → (Nat → Int32) → (Nat → Int32) → Int32 → Int32 → Int32 → Int32 → Int32 → Int32 → Int32 → Int32 → Int32 → Option (Int32 × (Nat → Int32) × (Nat → Int32) × (Nat → Int32) × (Nat → Int32) × Int32 × Int32 × Int32 × Int32 × Int32 × Int32 × Int32 × Int32 × Int32)
  | 0, _, _, _, _, _, _, _, _, _, _, _, _, _, _, _, _ => none
  | k + 1, a1, a2, mss, mSA, mSB, mSC, mSE, ml1, ml2, ml3, mc1, mc2, mc3, mf1, mf2, mf3 =>
  (if ps ≤ a2 then (k110 a1 mss mSA mSB mSC mSE ml1 ml2 ml3 mc1 mc2 mc3 mf1 mf2 mf3) else (bd (fX6_lead 121 ml1 ml2 ml3 X Y Z a1 a2) (fun v_4 => (LX3_findFaces_54 fi ps X Y Z (fun a1 a2 mss mSA mSB mSC mSE ml1 ml2 ml3 mc1 mc2 mc3 mf1 mf2 mf3 => (LX3_findFaces_26 fi ps X Y Z k110 k a1 (a2 + 1) mss mSA mSB mSC mSE ml1 ml2 ml3 mc1 mc2 mc3 mf1 mf2 mf3)) FU a1 a2 (a2 + 1) mss mSA mSB mSC mSE v_4.1 v_4.2.1 v_4.2.2 mc1 mc2 mc3 mf1 mf2 mf3))))
def LX3_findFaces_11 (fi : Int32) (ps : Int32) (X : Nat → Int32) (Y : Nat → Int32) (Z : Nat → Int32)  : Nat → Int32 → Int32 → (Nat → Int32) → (Nat → Int32) → (Nat → Int32) → (Nat → Int32) → Int32 → Int32 → Int32 → Int32 → Int32 → Int32 → Int32 → Int32 → Int32 → Option (Int32 × (Nat → Int32) × (Nat → Int32) × (Nat → Int32) × (Nat → Int32) × Int32 × Int32 × Int32 × Int32 × Int32 × Int32 × Int32 × Int32 × Int32)
  | 0, _, _, _, _, _, _, _, _, _, _, _, _, _, _, _ => none
  | k + 1, a1, mss, mSA, mSB, mSC, mSE, ml1, ml2, ml3, mc1, mc2, mc3, mf1, mf2, mf3 =>
  (if ps ≤ a1 then (some (mss, mSA, mSB, mSC, mSE, ml1, ml2, ml3, mc1, mc2, mc3, mf1, mf2, mf3)) else (LX3_findFaces_26 fi ps X Y Z (fun a1 mss mSA mSB mSC mSE ml1 ml2 ml3 mc1 mc2 mc3 mf1 mf2 mf3 => (LX3_findFaces_11 fi ps X Y Z k (a1 + 1) mss mSA mSB mSC mSE ml1 ml2 ml3 mc1 mc2 mc3 mf1 mf2 mf3)) FU a1 (a1 + 1) mss mSA mSB mSC mSE ml1 ml2 ml3 mc1 mc2 mc3 mf1 mf2 mf3))
def fX3_findFaces (fi : Int32) (ps : Int32) (X : Nat → Int32) (Y : Nat → Int32) (Z : Nat → Int32) (ss : Int32) (SA : Nat → Int32) (SB : Nat → Int32) (SC : Nat → Int32) (SE : Nat → Int32) (l1 : Int32) (l2 : Int32) (l3 : Int32) (c1 : Int32) (c2 : Int32) (c3 : Int32) (f1 : Int32) (f2 : Int32) (f3 : Int32) : Option (Int32 × (Nat → Int32) × (Nat → Int32) × (Nat → Int32) × (Nat → Int32) × Int32 × Int32 × Int32 × Int32 × Int32 × Int32 × Int32 × Int32 × Int32) :=
  (if fi = 3 then (LX3_findFaces_11 fi ps X Y Z FU 0 ss SA SB SC SE l1 l2 l3 c1 c2 c3 f1 f2 f3) else (some (ss, SA, SB, SC, SE, l1, l2, l3, c1, c2, c3, f1, f2, f3)))
abbrev rX3_findFaces : Room := { frames := 3, cells := 0, slots := 0, locals := 75 }
set_option maxHeartbeats 40000000 in
set_option maxRecDepth 100000 in
theorem kX3_findFaces (l : Launch) (G : GT) (h0 p0 ax ay az s0 sa sb sc se b0 ba bb bc be t1 t2 t3 t4 : Nat) (sz : Nat) (fi : Int32) (ps : Int32) (X : Nat → Int32) (Y : Nat → Int32) (Z : Nat → Int32) (ss : Int32) (SA : Nat → Int32) (SB : Nat → Int32) (SC : Nat → Int32) (SE : Nat → Int32) (bs : Int32) (BA : Nat → Int32) (BB : Nat → Int32) (BC : Nat → Int32) (BD : Nat → Int32) (l1 : Int32) (l2 : Int32) (l3 : Int32) (c1 : Int32) (c2 : Int32) (c3 : Int32) (r1 : Int32) (r2 : Int32) (r3 : Int32) (f1 : Int32) (f2 : Int32) (f3 : Int32) (res : Int32 × (Nat → Int32) × (Nat → Int32) × (Nat → Int32) × (Nat → Int32) × Int32 × Int32 × Int32 × Int32 × Int32 × Int32 × Int32 × Int32 × Int32) (hF : fX3_findFaces fi ps X Y Z ss SA SB SC SE l1 l2 l3 c1 c2 c3 f1 f2 f3 = some res) : Met l yX3_findFaces wsX3_findFaces rX3_findFaces (va_Pc [.ref h0] (pW G sz (wMk G h0 p0 ax ay az s0 sa sb sc se b0 ba bb bc be t1 t2 t3 t4 fi ps X Y Z ss SA SB SC SE bs BA BB BC BD l1 l2 l3 c1 c2 c3 r1 r2 r3 f1 f2 f3))) (va_Qv (fun (u : Int32 × (Nat → Int32) × (Nat → Int32) × (Nat → Int32) × (Nat → Int32) × Int32 × Int32 × Int32 × Int32 × Int32 × Int32 × Int32 × Int32 × Int32) => u = res) (fun u t => qW G (va_A (wMk G h0 p0 ax ay az s0 sa sb sc se b0 ba bb bc be t1 t2 t3 t4 fi ps X Y Z ss SA SB SC SE bs BA BB BC BD l1 l2 l3 c1 c2 c3 r1 r2 r3 f1 f2 f3) sz) (wMk G h0 p0 ax ay az s0 sa sb sc se b0 ba bb bc be t1 t2 t3 t4 fi ps X Y Z u.1 u.2.1 u.2.2.1 u.2.2.2.1 u.2.2.2.2.1 bs BA BB BC BD u.2.2.2.2.2.1 u.2.2.2.2.2.2.1 u.2.2.2.2.2.2.2.1 u.2.2.2.2.2.2.2.2.1 u.2.2.2.2.2.2.2.2.2.1 u.2.2.2.2.2.2.2.2.2.2.1 r1 r2 r3 u.2.2.2.2.2.2.2.2.2.2.2.1 u.2.2.2.2.2.2.2.2.2.2.2.2.1 u.2.2.2.2.2.2.2.2.2.2.2.2.2) t) (va_A (wMk G h0 p0 ax ay az s0 sa sb sc se b0 ba bb bc be t1 t2 t3 t4 fi ps X Y Z ss SA SB SC SE bs BA BB BC BD l1 l2 l3 c1 c2 c3 r1 r2 r3 f1 f2 f3) sz)) 0 0 (va_A (wMk G h0 p0 ax ay az s0 sa sb sc se b0 ba bb bc be t1 t2 t3 t4 fi ps X Y Z ss SA SB SC SE bs BA BB BC BD l1 l2 l3 c1 c2 c3 r1 r2 r3 f1 f2 f3) sz) := by
  refine Met.ofW (cc := cX3_findFaces) (maxL := 4) (ret := none) (by decide) rfl ?_
  intro p e s m args below meth c s₁ B hml hv
  obtain ⟨rfl, hsz, hP, hK, hD0⟩ := hv
  have hx := B.exec
  have hb := B.bytes
  have hr := B.returns
  have hts := atoms_spec (ws := wsX3_findFaces) B.pre
  have hown : s.vm.findClass RX3 = some m.cls := findClass_of_methodNamed B.named
  have hlocks := B.notSynchronized
  subst hsz
  have hD := hD0.self (sz := s.heap.size)
  generalize hAe : va_A (wMk G h0 p0 ax ay az s0 sa sb sc se b0 ba bb bc be t1 t2 t3 t4 fi ps X Y Z ss SA SB SC SE bs BA BB BC BD l1 l2 l3 c1 c2 c3 r1 r2 r3 f1 f2 f3) s.heap.size = A at hD ⊢
  have hA : ∀ q : Nat, s.heap.size ≤ q → A q := fun q h => by rw [← hAe]; exact Or.inr h
  have hS : va_S A s.heap s.heap [] := va_S.rf
  have hin3 : ∀ w ∈ u_ws RX3 TX3 8, w ∈ wsX3_findFaces := by decide +kernel
  have hfl88 := hts (.fieldLink RX3 88 "SwellBodies$Maker" "fills" "I") (by decide +kernel)
  have hfl14 := hts (.fieldLink RX3 14 "SwellBodies$Maker" "points" "LSwellBodies$Points;") (by decide +kernel)
  have hin4 : ∀ w ∈ u_ws RX4 TX4 4, w ∈ wsX3_findFaces := by decide +kernel
  have hfl46 := hts (.fieldLink RX3 46 "SwellBodies$Points" "size" "I") (by decide +kernel)
  have hfl33 := hts (.fieldLink RX3 33 "SwellBodies$Maker" "along" "LSwellBodies$Step;") (by decide +kernel)
  have hfl37 := hts (.fieldLink RX3 37 "SwellBodies$Maker" "across" "LSwellBodies$Step;") (by decide +kernel)
  have hfl43 := hts (.fieldLink RX3 43 "SwellBodies$Maker" "facing" "LSwellBodies$Step;") (by decide +kernel)
  have hl := lv_entry ([.ref h0]) (n := 4) (Nat.le_of_ble_eq_true rfl)
  rw [lg_entry_eq]
  generalize (lg_sl ([.ref h0]) ++ List.replicate (4 - (lg_sl ([.ref h0])).length) Slot.unset).toArray = ls at hl ⊢
  have hl : lv_has ls 4 [(0, .ref h0)] := hl
  have hL54 : ∀ (k104 : Int32 → Int32 → Int32 → (Nat → Int32) → (Nat → Int32) → (Nat → Int32) → (Nat → Int32) → Int32 → Int32 → Int32 → Int32 → Int32 → Int32 → Int32 → Int32 → Int32 → Option (Int32 × (Nat → Int32) × (Nat → Int32) × (Nat → Int32) × (Nat → Int32) × Int32 × Int32 × Int32 × Int32 × Int32 × Int32 × Int32 × Int32 × Int32)), (∀ (a1 : Int32) (a2 : Int32) (mss : Int32) (mSA : Nat → Int32) (mSB : Nat → Int32) (mSC : Nat → Int32) (mSE : Nat → Int32) (ml1 : Int32) (ml2 : Int32) (ml3 : Int32) (mc1 : Int32) (mc2 : Int32) (mc3 : Int32) (mf1 : Int32) (mf2 : Int32) (mf3 : Int32) (H : Heap) (locs : List Loc) (ls : Array Slot), k104 a1 a2 mss mSA mSB mSC mSE ml1 ml2 ml3 mc1 mc2 mc3 mf1 mf2 mf3 = some res → va_P (gD G) vwCl (wMk G h0 p0 ax ay az s0 sa sb sc se b0 ba bb bc be t1 t2 t3 t4 fi ps X Y Z mss mSA mSB mSC mSE bs BA BB BC BD ml1 ml2 ml3 mc1 mc2 mc3 r1 r2 r3 mf1 mf2 mf3) H → va_D A (wMk G h0 p0 ax ay az s0 sa sb sc se b0 ba bb bc be t1 t2 t3 t4 fi ps X Y Z mss mSA mSB mSC mSE bs BA BB BC BD ml1 ml2 ml3 mc1 mc2 mc3 r1 r2 r3 mf1 mf2 mf3) → va_S A s.heap H locs → lv_has ls 4 [(0, .ref h0), (1, .int a1), (2, .int a2)] → W p l e (headSpec wsX3_findFaces rX3_findFaces).room s m ([.ref h0] : List Value).toArray below meth c H locs 0 0 (MQ below (va_Qv (fun (u : Int32 × (Nat → Int32) × (Nat → Int32) × (Nat → Int32) × (Nat → Int32) × Int32 × Int32 × Int32 × Int32 × Int32 × Int32 × Int32 × Int32 × Int32) => u = res) (fun u t => qW G A (wMk G h0 p0 ax ay az s0 sa sb sc se b0 ba bb bc be t1 t2 t3 t4 fi ps X Y Z u.1 u.2.1 u.2.2.1 u.2.2.2.1 u.2.2.2.2.1 bs BA BB BC BD u.2.2.2.2.2.1 u.2.2.2.2.2.2.1 u.2.2.2.2.2.2.2.1 u.2.2.2.2.2.2.2.2.1 u.2.2.2.2.2.2.2.2.2.1 u.2.2.2.2.2.2.2.2.2.2.1 r1 r2 r3 u.2.2.2.2.2.2.2.2.2.2.2.1 u.2.2.2.2.2.2.2.2.2.2.2.2.1 u.2.2.2.2.2.2.2.2.2.2.2.2.2) t) A) ([.ref h0] : List Value).toArray s 0 0 A) (F0 m 104 ls [])) → ∀ (k : Nat), ∀ (a1 : Int32) (a2 : Int32) (a3 : Int32) (mss : Int32) (mSA : Nat → Int32) (mSB : Nat → Int32) (mSC : Nat → Int32) (mSE : Nat → Int32) (ml1 : Int32) (ml2 : Int32) (ml3 : Int32) (mc1 : Int32) (mc2 : Int32) (mc3 : Int32) (mf1 : Int32) (mf2 : Int32) (mf3 : Int32) (H : Heap) (locs : List Loc) (ls : Array Slot), LX3_findFaces_54 fi ps X Y Z k104 k a1 a2 a3 mss mSA mSB mSC mSE ml1 ml2 ml3 mc1 mc2 mc3 mf1 mf2 mf3 = some res → va_P (gD G) vwCl (wMk G h0 p0 ax ay az s0 sa sb sc se b0 ba bb bc be t1 t2 t3 t4 fi ps X Y Z mss mSA mSB mSC mSE bs BA BB BC BD ml1 ml2 ml3 mc1 mc2 mc3 r1 r2 r3 mf1 mf2 mf3) H → va_D A (wMk G h0 p0 ax ay az s0 sa sb sc se b0 ba bb bc be t1 t2 t3 t4 fi ps X Y Z mss mSA mSB mSC mSE bs BA BB BC BD ml1 ml2 ml3 mc1 mc2 mc3 r1 r2 r3 mf1 mf2 mf3) → va_S A s.heap H locs → lv_has ls 4 [(0, .ref h0), (1, .int a1), (2, .int a2), (3, .int a3)] → W p l e (headSpec wsX3_findFaces rX3_findFaces).room s m ([.ref h0] : List Value).toArray below meth c H locs 0 0 (MQ below (va_Qv (fun (u : Int32 × (Nat → Int32) × (Nat → Int32) × (Nat → Int32) × (Nat → Int32) × Int32 × Int32 × Int32 × Int32 × Int32 × Int32 × Int32 × Int32 × Int32) => u = res) (fun u t => qW G A (wMk G h0 p0 ax ay az s0 sa sb sc se b0 ba bb bc be t1 t2 t3 t4 fi ps X Y Z u.1 u.2.1 u.2.2.1 u.2.2.2.1 u.2.2.2.2.1 bs BA BB BC BD u.2.2.2.2.2.1 u.2.2.2.2.2.2.1 u.2.2.2.2.2.2.2.1 u.2.2.2.2.2.2.2.2.1 u.2.2.2.2.2.2.2.2.2.1 u.2.2.2.2.2.2.2.2.2.2.1 r1 r2 r3 u.2.2.2.2.2.2.2.2.2.2.2.1 u.2.2.2.2.2.2.2.2.2.2.2.2.1 u.2.2.2.2.2.2.2.2.2.2.2.2.2) t) A) ([.ref h0] : List Value).toArray s 0 0 A) (F0 m 54 ls []) := by
    intro k104 hk104
    intro k
    induction k with
    | zero =>
      intro a1 a2 a3 mss mSA mSB mSC mSE ml1 ml2 ml3 mc1 mc2 mc3 mf1 mf2 mf3 H locs ls hF hP hD hS hl
      rw [LX3_findFaces_54] at hF
      cases hF
    | succ k ih =>
      intro a1 a2 a3 mss mSA mSB mSC mSE ml1 ml2 ml3 mc1 mc2 mc3 mf1 mf2 mf3 H locs ls hF hP hD hS hl
      rw [LX3_findFaces_54] at hF
      refine lv_iload_n hx hb dX3_findFaces_54 rfl (lv_at hl 3 rfl) ?_
      refine lv_aload_n hx hb dX3_findFaces_55 rfl (lv_at hl 0 rfl) ?_
      refine va_get (ci := 3) (v := .ref p0) (C := RX3) (T := TX3) (N := 8) hx hb hts hin3 hown hK hP 0 rfl rfl 0 (by decide) hfl14 (fun _ h9 => h9) rfl dX3_findFaces_56 ?_
      refine va_get (ci := 4) (v := .int ps) (C := RX4) (T := TX4) (N := 4) hx hb hts hin4 hown hK hP 1 rfl rfl 3 (by decide) hfl46 (fun _ h9 => h9) rfl dX3_findFaces_59 ?_
      refine lv_icmp_ge (tgt := 104) hx hb dX3_findFaces_62 (by decide) (fun c_5 => ?_) (fun c_5 => ?_)
      · replace hF := it_p c_5 hF
        exact hk104 a1 a2 mss mSA mSB mSC mSE ml1 ml2 ml3 mc1 mc2 mc3 mf1 mf2 mf3 _ _ _ hF hP hD hS (lv_sub hl [0, 1, 2] rfl)
      · replace hF := it_n c_5 hF
        refine lv_aload_n hx hb dX3_findFaces_65 rfl (lv_at hl 0 rfl) ?_
        refine va_get (ci := 3) (v := .ref t2) (C := RX3) (T := TX3) (N := 8) hx hb hts hin3 hown hK hP 0 rfl rfl 4 (by decide) hfl37 (fun _ h9 => h9) rfl dX3_findFaces_66 ?_
        refine lv_aload_n hx hb dX3_findFaces_69 rfl (lv_at hl 0 rfl) ?_
        refine va_get (ci := 3) (v := .ref p0) (C := RX3) (T := TX3) (N := 8) hx hb hts hin3 hown hK hP 0 rfl rfl 0 (by decide) hfl14 (fun _ h9 => h9) rfl dX3_findFaces_70 ?_
        refine lv_iload_n hx hb dX3_findFaces_73 rfl (lv_at hl 1 rfl) ?_
        refine lv_iload_n hx hb dX3_findFaces_74 rfl (lv_at hl 3 rfl) ?_
        obtain ⟨v_6, hv_6, hF⟩ := bd_s hF
        refine rw_ve (wf := (fun (u : Int32 × Int32 × Int32) => (wStpPt G t2 p0 ax ay az 121 u.1 u.2.1 u.2.2 ps X Y Z))) (wr := [(h0, .inr (3, [.ref p0, .ref s0, .ref b0, .ref t1, .ref t2, .ref t3, .ref t4, .int fi])), (s0, .inr (1, [.ref sa, .ref sb, .ref sc, .ref se, .int mss])), (sa, .inl (gI G, 80, .inl mSA)), (sb, .inl (gI G, 80, .inl mSB)), (sc, .inl (gI G, 80, .inl mSC)), (se, .inl (gI G, 80, .inl mSE)), (b0, .inr (1, [.ref ba, .ref bb, .ref bc, .ref be, .int bs])), (ba, .inl (gI G, 3, .inl BA)), (bb, .inl (gI G, 3, .inl BB)), (bc, .inl (gI G, 3, .inl BC)), (be, .inl (gI G, 3, .inl BD)), (t1, .inr (6, [.int ml1, .int ml2, .int ml3])), (t3, .inr (6, [.int r1, .int r2, .int r3])), (t4, .inr (6, [.int mf1, .int mf2, .int mf3]))]) (va_runV (As := [.ref p0, .int a1, .int a3]) (rest := []) ⟨hx, hb, hml, hown, hts⟩ (kX6_lead l G t2 p0 ax ay az H.size 121 mc1 mc2 mc3 ps X Y Z a1 a3 v_6 hv_6) (cwV 3 hts gX3_findFaces_X6_lead rfl rfl rfl (by decide +kernel) ⟨Nat.le_of_ble_eq_true rfl, Nat.le_of_ble_eq_true rfl⟩) (pvW (q0 := 0) 6 hK (hP.sub (ws' := (wStpPt G t2 p0 ax ay az 121 mc1 mc2 mc3 ps X Y Z)) [16, 1, 2, 3, 4] rfl) (hD.sub (ws' := (wStpPt G t2 p0 ax ay az 121 mc1 mc2 mc3 ps X Y Z)) [16, 1, 2, 3, 4] (by decide) rfl) rfl rfl) rfl rfl hl.1 rfl (lv_room (Nat.le_of_ble_eq_true rfl)) dX3_findFaces_75 ⟨Nat.le_of_ble_eq_true rfl, Nat.le_of_ble_eq_true rfl⟩) hP hD hS hA [16, 1, 2, 3, 4] [0, 5, 6, 7, 8, 9, 10, 11, 12, 13, 14, 15, 17, 18] rfl rfl (by decide) (by decide) (fun H locs  hP hD hS => ?_)
        have hP : va_P (gD G) vwCl (wMk G h0 p0 ax ay az s0 sa sb sc se b0 ba bb bc be t1 t2 t3 t4 fi ps X Y Z mss mSA mSB mSC mSE bs BA BB BC BD ml1 ml2 ml3 v_6.1 v_6.2.1 v_6.2.2 r1 r2 r3 mf1 mf2 mf3) H := hP.sub [0, 15, 16, 17, 18, 1, 2, 3, 4, 5, 6, 7, 8, 9, 10, 11, 14, 12, 13] rfl
        have hD : va_D A (wMk G h0 p0 ax ay az s0 sa sb sc se b0 ba bb bc be t1 t2 t3 t4 fi ps X Y Z mss mSA mSB mSC mSE bs BA BB BC BD ml1 ml2 ml3 v_6.1 v_6.2.1 v_6.2.2 r1 r2 r3 mf1 mf2 mf3) := hD.sub [0, 15, 16, 17, 18, 1, 2, 3, 4, 5, 6, 7, 8, 9, 10, 11, 14, 12, 13] (by decide) rfl
        refine lv_aload_n hx hb dX3_findFaces_78 rfl (lv_at hl 0 rfl) ?_
        refine va_get (ci := 3) (v := .ref t4) (C := RX3) (T := TX3) (N := 8) hx hb hts hin3 hown hK hP 0 rfl rfl 6 (by decide) hfl43 (fun _ h9 => h9) rfl dX3_findFaces_79 ?_
        refine lv_aload_n hx hb dX3_findFaces_82 rfl (lv_at hl 0 rfl) ?_
        refine va_get (ci := 3) (v := .ref t1) (C := RX3) (T := TX3) (N := 8) hx hb hts hin3 hown hK hP 0 rfl rfl 3 (by decide) hfl33 (fun _ h9 => h9) rfl dX3_findFaces_83 ?_
        refine lv_aload_n hx hb dX3_findFaces_86 rfl (lv_at hl 0 rfl) ?_
        refine va_get (ci := 3) (v := .ref t2) (C := RX3) (T := TX3) (N := 8) hx hb hts hin3 hown hK hP 0 rfl rfl 4 (by decide) hfl37 (fun _ h9 => h9) rfl dX3_findFaces_87 ?_
        obtain ⟨v_7, hv_7, hF⟩ := bd_s hF
        refine rw_ve (wf := (fun (u : Int32 × Int32 × Int32) => (wStp3 G t4 t1 t2 u.1 u.2.1 u.2.2 ml1 ml2 ml3 v_6.1 v_6.2.1 v_6.2.2))) (wr := [(h0, .inr (3, [.ref p0, .ref s0, .ref b0, .ref t1, .ref t2, .ref t3, .ref t4, .int fi])), (p0, .inr (4, [.ref ax, .ref ay, .ref az, .int ps])), (ax, .inl (gI G, 121, .inl X)), (ay, .inl (gI G, 121, .inl Y)), (az, .inl (gI G, 121, .inl Z)), (s0, .inr (1, [.ref sa, .ref sb, .ref sc, .ref se, .int mss])), (sa, .inl (gI G, 80, .inl mSA)), (sb, .inl (gI G, 80, .inl mSB)), (sc, .inl (gI G, 80, .inl mSC)), (se, .inl (gI G, 80, .inl mSE)), (b0, .inr (1, [.ref ba, .ref bb, .ref bc, .ref be, .int bs])), (ba, .inl (gI G, 3, .inl BA)), (bb, .inl (gI G, 3, .inl BB)), (bc, .inl (gI G, 3, .inl BC)), (be, .inl (gI G, 3, .inl BD)), (t3, .inr (6, [.int r1, .int r2, .int r3]))]) (va_runV (As := [.ref t1, .ref t2]) (rest := []) ⟨hx, hb, hml, hown, hts⟩ (kX6_square l G t4 t1 t2 H.size mf1 mf2 mf3 ml1 ml2 ml3 v_6.1 v_6.2.1 v_6.2.2 v_7 hv_7) (cwV 2 hts gX3_findFaces_X6_square rfl rfl rfl (by decide +kernel) ⟨Nat.le_of_ble_eq_true rfl, Nat.le_of_ble_eq_true rfl⟩) (pvW (q0 := 0) 6 hK (hP.sub (ws' := (wStp3 G t4 t1 t2 mf1 mf2 mf3 ml1 ml2 ml3 v_6.1 v_6.2.1 v_6.2.2)) [18, 15, 16] rfl) (hD.sub (ws' := (wStp3 G t4 t1 t2 mf1 mf2 mf3 ml1 ml2 ml3 v_6.1 v_6.2.1 v_6.2.2)) [18, 15, 16] (by decide) rfl) rfl rfl) rfl rfl hl.1 rfl (lv_room (Nat.le_of_ble_eq_true rfl)) dX3_findFaces_90 ⟨Nat.le_of_ble_eq_true rfl, Nat.le_of_ble_eq_true rfl⟩) hP hD hS hA [18, 15, 16] [0, 1, 2, 3, 4, 5, 6, 7, 8, 9, 10, 11, 12, 13, 14, 17] rfl rfl (by decide) (by decide) (fun H locs  hP hD hS => ?_)
        have hP : va_P (gD G) vwCl (wMk G h0 p0 ax ay az s0 sa sb sc se b0 ba bb bc be t1 t2 t3 t4 fi ps X Y Z mss mSA mSB mSC mSE bs BA BB BC BD ml1 ml2 ml3 v_6.1 v_6.2.1 v_6.2.2 r1 r2 r3 v_7.1 v_7.2.1 v_7.2.2) H := hP.sub [0, 1, 2, 3, 4, 5, 6, 7, 8, 9, 10, 11, 12, 13, 14, 17, 18, 15, 16] rfl
        have hD : va_D A (wMk G h0 p0 ax ay az s0 sa sb sc se b0 ba bb bc be t1 t2 t3 t4 fi ps X Y Z mss mSA mSB mSC mSE bs BA BB BC BD ml1 ml2 ml3 v_6.1 v_6.2.1 v_6.2.2 r1 r2 r3 v_7.1 v_7.2.1 v_7.2.2) := hD.sub [0, 1, 2, 3, 4, 5, 6, 7, 8, 9, 10, 11, 12, 13, 14, 17, 18, 15, 16] (by decide) rfl
        refine lv_aload_n hx hb dX3_findFaces_93 rfl (lv_at hl 0 rfl) ?_
        refine lv_iload_n hx hb dX3_findFaces_94 rfl (lv_at hl 1 rfl) ?_
        obtain ⟨v_8, hv_8, hF⟩ := bd_s hF
        refine rw_ve (wf := (fun (u : Int32 × (Nat → Int32) × (Nat → Int32) × (Nat → Int32) × (Nat → Int32) × Int32 × Int32 × Int32) => (wMk G h0 p0 ax ay az s0 sa sb sc se b0 ba bb bc be t1 t2 t3 t4 fi ps X Y Z u.1 u.2.1 u.2.2.1 u.2.2.2.1 u.2.2.2.2.1 bs BA BB BC BD ml1 ml2 ml3 v_6.1 v_6.2.1 v_6.2.2 r1 r2 r3 u.2.2.2.2.2.1 u.2.2.2.2.2.2.1 u.2.2.2.2.2.2.2))) (wr := []) (va_runV (As := [.int a1]) (rest := []) ⟨hx, hb, hml, hown, hts⟩ (kX3_trySide l G h0 p0 ax ay az s0 sa sb sc se b0 ba bb bc be t1 t2 t3 t4 H.size fi ps X Y Z mss mSA mSB mSC mSE bs BA BB BC BD ml1 ml2 ml3 v_6.1 v_6.2.1 v_6.2.2 r1 r2 r3 v_7.1 v_7.2.1 v_7.2.2 a1 v_8 hv_8) (cwV 1 hts gX3_findFaces_X3_trySide rfl rfl rfl (by decide +kernel) ⟨Nat.le_of_ble_eq_true rfl, Nat.le_of_ble_eq_true rfl⟩) (pvW (q0 := 0) 3 hK (hP.sub (ws' := (wMk G h0 p0 ax ay az s0 sa sb sc se b0 ba bb bc be t1 t2 t3 t4 fi ps X Y Z mss mSA mSB mSC mSE bs BA BB BC BD ml1 ml2 ml3 v_6.1 v_6.2.1 v_6.2.2 r1 r2 r3 v_7.1 v_7.2.1 v_7.2.2)) [0, 1, 2, 3, 4, 5, 6, 7, 8, 9, 10, 11, 12, 13, 14, 15, 16, 17, 18] rfl) (hD.sub (ws' := (wMk G h0 p0 ax ay az s0 sa sb sc se b0 ba bb bc be t1 t2 t3 t4 fi ps X Y Z mss mSA mSB mSC mSE bs BA BB BC BD ml1 ml2 ml3 v_6.1 v_6.2.1 v_6.2.2 r1 r2 r3 v_7.1 v_7.2.1 v_7.2.2)) [0, 1, 2, 3, 4, 5, 6, 7, 8, 9, 10, 11, 12, 13, 14, 15, 16, 17, 18] (by decide) rfl) rfl rfl) rfl rfl hl.1 rfl (lv_room (Nat.le_of_ble_eq_true rfl)) dX3_findFaces_95 ⟨Nat.le_of_ble_eq_true rfl, Nat.le_of_ble_eq_true rfl⟩) hP hD hS hA [0, 1, 2, 3, 4, 5, 6, 7, 8, 9, 10, 11, 12, 13, 14, 15, 16, 17, 18] [] rfl rfl (by decide) (by decide) (fun H locs  hP hD hS => ?_)
        have hP : va_P (gD G) vwCl (wMk G h0 p0 ax ay az s0 sa sb sc se b0 ba bb bc be t1 t2 t3 t4 fi ps X Y Z v_8.1 v_8.2.1 v_8.2.2.1 v_8.2.2.2.1 v_8.2.2.2.2.1 bs BA BB BC BD ml1 ml2 ml3 v_6.1 v_6.2.1 v_6.2.2 r1 r2 r3 v_8.2.2.2.2.2.1 v_8.2.2.2.2.2.2.1 v_8.2.2.2.2.2.2.2) H := hP.sub [0, 1, 2, 3, 4, 5, 6, 7, 8, 9, 10, 11, 12, 13, 14, 15, 16, 17, 18] rfl
        have hD : va_D A (wMk G h0 p0 ax ay az s0 sa sb sc se b0 ba bb bc be t1 t2 t3 t4 fi ps X Y Z v_8.1 v_8.2.1 v_8.2.2.1 v_8.2.2.2.1 v_8.2.2.2.2.1 bs BA BB BC BD ml1 ml2 ml3 v_6.1 v_6.2.1 v_6.2.2 r1 r2 r3 v_8.2.2.2.2.2.1 v_8.2.2.2.2.2.2.1 v_8.2.2.2.2.2.2.2) := hD.sub [0, 1, 2, 3, 4, 5, 6, 7, 8, 9, 10, 11, 12, 13, 14, 15, 16, 17, 18] (by decide) rfl
        refine lv_iinc (v := a3 + 1) (lv' := [(3, .int (a3 + 1)), (0, .ref h0), (1, .int a1), (2, .int a2)]) hx hb dX3_findFaces_98 hl (k := 3) rfl rfl (by decide) rfl (fun ls hl => ?_)
        refine lv_goto (tgt := 54) hx hb dX3_findFaces_101 (by decide) ?_
        exact ih a1 a2 (a3 + 1) v_8.1 v_8.2.1 v_8.2.2.1 v_8.2.2.2.1 v_8.2.2.2.2.1 ml1 ml2 ml3 v_6.1 v_6.2.1 v_6.2.2 v_8.2.2.2.2.2.1 v_8.2.2.2.2.2.2.1 v_8.2.2.2.2.2.2.2 _ _ _ hF hP hD hS (lv_sub hl [1, 2, 3, 0] rfl)
  have hL26 : ∀ (k110 : Int32 → Int32 → (Nat → Int32) → (Nat → Int32) → (Nat → Int32) → (Nat → Int32) → Int32 → Int32 → Int32 → Int32 → Int32 → Int32 → Int32 → Int32 → Int32 → Option (Int32 × (Nat → Int32) × (Nat → Int32) × (Nat → Int32) × (Nat → Int32) × Int32 × Int32 × Int32 × Int32 × Int32 × Int32 × Int32 × Int32 × Int32)), (∀ (a1 : Int32) (mss : Int32) (mSA : Nat → Int32) (mSB : Nat → Int32) (mSC : Nat → Int32) (mSE : Nat → Int32) (ml1 : Int32) (ml2 : Int32) (ml3 : Int32) (mc1 : Int32) (mc2 : Int32) (mc3 : Int32) (mf1 : Int32) (mf2 : Int32) (mf3 : Int32) (H : Heap) (locs : List Loc) (ls : Array Slot), k110 a1 mss mSA mSB mSC mSE ml1 ml2 ml3 mc1 mc2 mc3 mf1 mf2 mf3 = some res → va_P (gD G) vwCl (wMk G h0 p0 ax ay az s0 sa sb sc se b0 ba bb bc be t1 t2 t3 t4 fi ps X Y Z mss mSA mSB mSC mSE bs BA BB BC BD ml1 ml2 ml3 mc1 mc2 mc3 r1 r2 r3 mf1 mf2 mf3) H → va_D A (wMk G h0 p0 ax ay az s0 sa sb sc se b0 ba bb bc be t1 t2 t3 t4 fi ps X Y Z mss mSA mSB mSC mSE bs BA BB BC BD ml1 ml2 ml3 mc1 mc2 mc3 r1 r2 r3 mf1 mf2 mf3) → va_S A s.heap H locs → lv_has ls 4 [(0, .ref h0), (1, .int a1)] → W p l e (headSpec wsX3_findFaces rX3_findFaces).room s m ([.ref h0] : List Value).toArray below meth c H locs 0 0 (MQ below (va_Qv (fun (u : Int32 × (Nat → Int32) × (Nat → Int32) × (Nat → Int32) × (Nat → Int32) × Int32 × Int32 × Int32 × Int32 × Int32 × Int32 × Int32 × Int32 × Int32) => u = res) (fun u t => qW G A (wMk G h0 p0 ax ay az s0 sa sb sc se b0 ba bb bc be t1 t2 t3 t4 fi ps X Y Z u.1 u.2.1 u.2.2.1 u.2.2.2.1 u.2.2.2.2.1 bs BA BB BC BD u.2.2.2.2.2.1 u.2.2.2.2.2.2.1 u.2.2.2.2.2.2.2.1 u.2.2.2.2.2.2.2.2.1 u.2.2.2.2.2.2.2.2.2.1 u.2.2.2.2.2.2.2.2.2.2.1 r1 r2 r3 u.2.2.2.2.2.2.2.2.2.2.2.1 u.2.2.2.2.2.2.2.2.2.2.2.2.1 u.2.2.2.2.2.2.2.2.2.2.2.2.2) t) A) ([.ref h0] : List Value).toArray s 0 0 A) (F0 m 110 ls [])) → ∀ (k : Nat), ∀ (a1 : Int32) (a2 : Int32) (mss : Int32) (mSA : Nat → Int32) (mSB : Nat → Int32) (mSC : Nat → Int32) (mSE : Nat → Int32) (ml1 : Int32) (ml2 : Int32) (ml3 : Int32) (mc1 : Int32) (mc2 : Int32) (mc3 : Int32) (mf1 : Int32) (mf2 : Int32) (mf3 : Int32) (H : Heap) (locs : List Loc) (ls : Array Slot), LX3_findFaces_26 fi ps X Y Z k110 k a1 a2 mss mSA mSB mSC mSE ml1 ml2 ml3 mc1 mc2 mc3 mf1 mf2 mf3 = some res → va_P (gD G) vwCl (wMk G h0 p0 ax ay az s0 sa sb sc se b0 ba bb bc be t1 t2 t3 t4 fi ps X Y Z mss mSA mSB mSC mSE bs BA BB BC BD ml1 ml2 ml3 mc1 mc2 mc3 r1 r2 r3 mf1 mf2 mf3) H → va_D A (wMk G h0 p0 ax ay az s0 sa sb sc se b0 ba bb bc be t1 t2 t3 t4 fi ps X Y Z mss mSA mSB mSC mSE bs BA BB BC BD ml1 ml2 ml3 mc1 mc2 mc3 r1 r2 r3 mf1 mf2 mf3) → va_S A s.heap H locs → lv_has ls 4 [(0, .ref h0), (1, .int a1), (2, .int a2)] → W p l e (headSpec wsX3_findFaces rX3_findFaces).room s m ([.ref h0] : List Value).toArray below meth c H locs 0 0 (MQ below (va_Qv (fun (u : Int32 × (Nat → Int32) × (Nat → Int32) × (Nat → Int32) × (Nat → Int32) × Int32 × Int32 × Int32 × Int32 × Int32 × Int32 × Int32 × Int32 × Int32) => u = res) (fun u t => qW G A (wMk G h0 p0 ax ay az s0 sa sb sc se b0 ba bb bc be t1 t2 t3 t4 fi ps X Y Z u.1 u.2.1 u.2.2.1 u.2.2.2.1 u.2.2.2.2.1 bs BA BB BC BD u.2.2.2.2.2.1 u.2.2.2.2.2.2.1 u.2.2.2.2.2.2.2.1 u.2.2.2.2.2.2.2.2.1 u.2.2.2.2.2.2.2.2.2.1 u.2.2.2.2.2.2.2.2.2.2.1 r1 r2 r3 u.2.2.2.2.2.2.2.2.2.2.2.1 u.2.2.2.2.2.2.2.2.2.2.2.2.1 u.2.2.2.2.2.2.2.2.2.2.2.2.2) t) A) ([.ref h0] : List Value).toArray s 0 0 A) (F0 m 26 ls []) := by
    intro k110 hk110
    intro k
    induction k with
    | zero =>
      intro a1 a2 mss mSA mSB mSC mSE ml1 ml2 ml3 mc1 mc2 mc3 mf1 mf2 mf3 H locs ls hF hP hD hS hl
      rw [LX3_findFaces_26] at hF
      cases hF
    | succ k ih =>
      intro a1 a2 mss mSA mSB mSC mSE ml1 ml2 ml3 mc1 mc2 mc3 mf1 mf2 mf3 H locs ls hF hP hD hS hl
      rw [LX3_findFaces_26] at hF
      refine lv_iload_n hx hb dX3_findFaces_26 rfl (lv_at hl 2 rfl) ?_
      refine lv_aload_n hx hb dX3_findFaces_27 rfl (lv_at hl 0 rfl) ?_
      refine va_get (ci := 3) (v := .ref p0) (C := RX3) (T := TX3) (N := 8) hx hb hts hin3 hown hK hP 0 rfl rfl 0 (by decide) hfl14 (fun _ h9 => h9) rfl dX3_findFaces_28 ?_
      refine va_get (ci := 4) (v := .int ps) (C := RX4) (T := TX4) (N := 4) hx hb hts hin4 hown hK hP 1 rfl rfl 3 (by decide) hfl46 (fun _ h9 => h9) rfl dX3_findFaces_31 ?_
      refine lv_icmp_ge (tgt := 110) hx hb dX3_findFaces_34 (by decide) (fun c_3 => ?_) (fun c_3 => ?_)
      · replace hF := it_p c_3 hF
        exact hk110 a1 mss mSA mSB mSC mSE ml1 ml2 ml3 mc1 mc2 mc3 mf1 mf2 mf3 _ _ _ hF hP hD hS (lv_sub hl [0, 1] rfl)
      · replace hF := it_n c_3 hF
        refine lv_aload_n hx hb dX3_findFaces_37 rfl (lv_at hl 0 rfl) ?_
        refine va_get (ci := 3) (v := .ref t1) (C := RX3) (T := TX3) (N := 8) hx hb hts hin3 hown hK hP 0 rfl rfl 3 (by decide) hfl33 (fun _ h9 => h9) rfl dX3_findFaces_38 ?_
        refine lv_aload_n hx hb dX3_findFaces_41 rfl (lv_at hl 0 rfl) ?_
        refine va_get (ci := 3) (v := .ref p0) (C := RX3) (T := TX3) (N := 8) hx hb hts hin3 hown hK hP 0 rfl rfl 0 (by decide) hfl14 (fun _ h9 => h9) rfl dX3_findFaces_42 ?_
        refine lv_iload_n hx hb dX3_findFaces_45 rfl (lv_at hl 1 rfl) ?_
        refine lv_iload_n hx hb dX3_findFaces_46 rfl (lv_at hl 2 rfl) ?_
        obtain ⟨v_4, hv_4, hF⟩ := bd_s hF
        refine rw_ve (wf := (fun (u : Int32 × Int32 × Int32) => (wStpPt G t1 p0 ax ay az 121 u.1 u.2.1 u.2.2 ps X Y Z))) (wr := [(h0, .inr (3, [.ref p0, .ref s0, .ref b0, .ref t1, .ref t2, .ref t3, .ref t4, .int fi])), (s0, .inr (1, [.ref sa, .ref sb, .ref sc, .ref se, .int mss])), (sa, .inl (gI G, 80, .inl mSA)), (sb, .inl (gI G, 80, .inl mSB)), (sc, .inl (gI G, 80, .inl mSC)), (se, .inl (gI G, 80, .inl mSE)), (b0, .inr (1, [.ref ba, .ref bb, .ref bc, .ref be, .int bs])), (ba, .inl (gI G, 3, .inl BA)), (bb, .inl (gI G, 3, .inl BB)), (bc, .inl (gI G, 3, .inl BC)), (be, .inl (gI G, 3, .inl BD)), (t2, .inr (6, [.int mc1, .int mc2, .int mc3])), (t3, .inr (6, [.int r1, .int r2, .int r3])), (t4, .inr (6, [.int mf1, .int mf2, .int mf3]))]) (va_runV (As := [.ref p0, .int a1, .int a2]) (rest := []) ⟨hx, hb, hml, hown, hts⟩ (kX6_lead l G t1 p0 ax ay az H.size 121 ml1 ml2 ml3 ps X Y Z a1 a2 v_4 hv_4) (cwV 3 hts gX3_findFaces_X6_lead rfl rfl rfl (by decide +kernel) ⟨Nat.le_of_ble_eq_true rfl, Nat.le_of_ble_eq_true rfl⟩) (pvW (q0 := 0) 6 hK (hP.sub (ws' := (wStpPt G t1 p0 ax ay az 121 ml1 ml2 ml3 ps X Y Z)) [15, 1, 2, 3, 4] rfl) (hD.sub (ws' := (wStpPt G t1 p0 ax ay az 121 ml1 ml2 ml3 ps X Y Z)) [15, 1, 2, 3, 4] (by decide) rfl) rfl rfl) rfl rfl hl.1 rfl (lv_room (Nat.le_of_ble_eq_true rfl)) dX3_findFaces_47 ⟨Nat.le_of_ble_eq_true rfl, Nat.le_of_ble_eq_true rfl⟩) hP hD hS hA [15, 1, 2, 3, 4] [0, 5, 6, 7, 8, 9, 10, 11, 12, 13, 14, 16, 17, 18] rfl rfl (by decide) (by decide) (fun H locs  hP hD hS => ?_)
        have hP : va_P (gD G) vwCl (wMk G h0 p0 ax ay az s0 sa sb sc se b0 ba bb bc be t1 t2 t3 t4 fi ps X Y Z mss mSA mSB mSC mSE bs BA BB BC BD v_4.1 v_4.2.1 v_4.2.2 mc1 mc2 mc3 r1 r2 r3 mf1 mf2 mf3) H := hP.sub [0, 15, 16, 17, 18, 1, 2, 3, 4, 5, 6, 7, 8, 9, 10, 14, 11, 12, 13] rfl
        have hD : va_D A (wMk G h0 p0 ax ay az s0 sa sb sc se b0 ba bb bc be t1 t2 t3 t4 fi ps X Y Z mss mSA mSB mSC mSE bs BA BB BC BD v_4.1 v_4.2.1 v_4.2.2 mc1 mc2 mc3 r1 r2 r3 mf1 mf2 mf3) := hD.sub [0, 15, 16, 17, 18, 1, 2, 3, 4, 5, 6, 7, 8, 9, 10, 14, 11, 12, 13] (by decide) rfl
        refine lv_iload_n hx hb dX3_findFaces_50 rfl (lv_at hl 2 rfl) ?_
        refine lv_iconst (v := 1) hx hb dX3_findFaces_51 (by decide) ?_
        refine lv_iadd hx hb dX3_findFaces_52 ?_
        refine lv_istore_n (lv' := [(3, .int (a2 + 1)), (0, .ref h0), (1, .int a1), (2, .int a2)]) hx hb dX3_findFaces_53 rfl hl (by decide) rfl (fun ls hl => ?_)
        refine hL54 _ ?_ FU a1 a2 (a2 + 1) mss mSA mSB mSC mSE v_4.1 v_4.2.1 v_4.2.2 mc1 mc2 mc3 mf1 mf2 mf3 _ _ _ hF hP hD hS (lv_sub hl [1, 2, 3, 0] rfl)
        · intro a1 a2 mss mSA mSB mSC mSE ml1 ml2 ml3 mc1 mc2 mc3 mf1 mf2 mf3 H locs ls hF hP hD hS hl
          refine lv_iinc (v := a2 + 1) (lv' := [(2, .int (a2 + 1)), (0, .ref h0), (1, .int a1)]) hx hb dX3_findFaces_104 hl (k := 2) rfl rfl (by decide) rfl (fun ls hl => ?_)
          refine lv_goto (tgt := 26) hx hb dX3_findFaces_107 (by decide) ?_
          exact ih a1 (a2 + 1) mss mSA mSB mSC mSE ml1 ml2 ml3 mc1 mc2 mc3 mf1 mf2 mf3 _ _ _ hF hP hD hS (lv_sub hl [1, 2, 0] rfl)
  have hL11 : ∀ (k : Nat), ∀ (a1 : Int32) (mss : Int32) (mSA : Nat → Int32) (mSB : Nat → Int32) (mSC : Nat → Int32) (mSE : Nat → Int32) (ml1 : Int32) (ml2 : Int32) (ml3 : Int32) (mc1 : Int32) (mc2 : Int32) (mc3 : Int32) (mf1 : Int32) (mf2 : Int32) (mf3 : Int32) (H : Heap) (locs : List Loc) (ls : Array Slot), LX3_findFaces_11 fi ps X Y Z k a1 mss mSA mSB mSC mSE ml1 ml2 ml3 mc1 mc2 mc3 mf1 mf2 mf3 = some res → va_P (gD G) vwCl (wMk G h0 p0 ax ay az s0 sa sb sc se b0 ba bb bc be t1 t2 t3 t4 fi ps X Y Z mss mSA mSB mSC mSE bs BA BB BC BD ml1 ml2 ml3 mc1 mc2 mc3 r1 r2 r3 mf1 mf2 mf3) H → va_D A (wMk G h0 p0 ax ay az s0 sa sb sc se b0 ba bb bc be t1 t2 t3 t4 fi ps X Y Z mss mSA mSB mSC mSE bs BA BB BC BD ml1 ml2 ml3 mc1 mc2 mc3 r1 r2 r3 mf1 mf2 mf3) → va_S A s.heap H locs → lv_has ls 4 [(0, .ref h0), (1, .int a1)] → W p l e (headSpec wsX3_findFaces rX3_findFaces).room s m ([.ref h0] : List Value).toArray below meth c H locs 0 0 (MQ below (va_Qv (fun (u : Int32 × (Nat → Int32) × (Nat → Int32) × (Nat → Int32) × (Nat → Int32) × Int32 × Int32 × Int32 × Int32 × Int32 × Int32 × Int32 × Int32 × Int32) => u = res) (fun u t => qW G A (wMk G h0 p0 ax ay az s0 sa sb sc se b0 ba bb bc be t1 t2 t3 t4 fi ps X Y Z u.1 u.2.1 u.2.2.1 u.2.2.2.1 u.2.2.2.2.1 bs BA BB BC BD u.2.2.2.2.2.1 u.2.2.2.2.2.2.1 u.2.2.2.2.2.2.2.1 u.2.2.2.2.2.2.2.2.1 u.2.2.2.2.2.2.2.2.2.1 u.2.2.2.2.2.2.2.2.2.2.1 r1 r2 r3 u.2.2.2.2.2.2.2.2.2.2.2.1 u.2.2.2.2.2.2.2.2.2.2.2.2.1 u.2.2.2.2.2.2.2.2.2.2.2.2.2) t) A) ([.ref h0] : List Value).toArray s 0 0 A) (F0 m 11 ls []) := by
    intro k
    induction k with
    | zero =>
      intro a1 mss mSA mSB mSC mSE ml1 ml2 ml3 mc1 mc2 mc3 mf1 mf2 mf3 H locs ls hF hP hD hS hl
      rw [LX3_findFaces_11] at hF
      cases hF
    | succ k ih =>
      intro a1 mss mSA mSB mSC mSE ml1 ml2 ml3 mc1 mc2 mc3 mf1 mf2 mf3 H locs ls hF hP hD hS hl
      rw [LX3_findFaces_11] at hF
      refine lv_iload_n hx hb dX3_findFaces_11 rfl (lv_at hl 1 rfl) ?_
      refine lv_aload_n hx hb dX3_findFaces_12 rfl (lv_at hl 0 rfl) ?_
      refine va_get (ci := 3) (v := .ref p0) (C := RX3) (T := TX3) (N := 8) hx hb hts hin3 hown hK hP 0 rfl rfl 0 (by decide) hfl14 (fun _ h9 => h9) rfl dX3_findFaces_13 ?_
      refine va_get (ci := 4) (v := .int ps) (C := RX4) (T := TX4) (N := 4) hx hb hts hin4 hown hK hP 1 rfl rfl 3 (by decide) hfl46 (fun _ h9 => h9) rfl dX3_findFaces_16 ?_
      refine lv_icmp_ge (tgt := 116) hx hb dX3_findFaces_19 (by decide) (fun c_2 => ?_) (fun c_2 => ?_)
      · replace hF := it_p c_2 hF
        exact W.vret hx hb hr (fun t ht hW => ⟨⟨(mss, mSA, mSB, mSC, mSE, ml1, ml2, ml3, mc1, mc2, mc3, mf1, mf2, mf3), rfl, so_e hF, qW_mk ht hP hK hW hD⟩, hS.F ht⟩) hS.2.2 dX3_findFaces_116
      · replace hF := it_n c_2 hF
        refine lv_iload_n hx hb dX3_findFaces_22 rfl (lv_at hl 1 rfl) ?_
        refine lv_iconst (v := 1) hx hb dX3_findFaces_23 (by decide) ?_
        refine lv_iadd hx hb dX3_findFaces_24 ?_
        refine lv_istore_n (lv' := [(2, .int (a1 + 1)), (0, .ref h0), (1, .int a1)]) hx hb dX3_findFaces_25 rfl hl (by decide) rfl (fun ls hl => ?_)
        refine hL26 _ ?_ FU a1 (a1 + 1) mss mSA mSB mSC mSE ml1 ml2 ml3 mc1 mc2 mc3 mf1 mf2 mf3 _ _ _ hF hP hD hS (lv_sub hl [1, 2, 0] rfl)
        · intro a1 mss mSA mSB mSC mSE ml1 ml2 ml3 mc1 mc2 mc3 mf1 mf2 mf3 H locs ls hF hP hD hS hl
          refine lv_iinc (v := a1 + 1) (lv' := [(1, .int (a1 + 1)), (0, .ref h0)]) hx hb dX3_findFaces_110 hl (k := 1) rfl rfl (by decide) rfl (fun ls hl => ?_)
          refine lv_goto (tgt := 11) hx hb dX3_findFaces_113 (by decide) ?_
          exact ih (a1 + 1) mss mSA mSB mSC mSE ml1 ml2 ml3 mc1 mc2 mc3 mf1 mf2 mf3 _ _ _ hF hP hD hS (lv_sub hl [1, 0] rfl)
  unfold fX3_findFaces at hF
  refine lv_aload_n hx hb dX3_findFaces_0 rfl (lv_at hl 0 rfl) ?_
  refine va_get (ci := 3) (v := .int fi) (C := RX3) (T := TX3) (N := 8) hx hb hts hin3 hown hK hP 0 rfl rfl 7 (by decide) hfl88 (fun _ h9 => h9) rfl dX3_findFaces_1 ?_
  refine lv_iconst (v := 3) hx hb dX3_findFaces_4 (by decide) ?_
  refine lv_icmp_eq (tgt := 9) hx hb dX3_findFaces_5 (by decide) (fun c_1 => ?_) (fun c_1 => ?_)
  · replace hF := it_p c_1 hF
    refine lv_iconst (v := 0) hx hb dX3_findFaces_9 (by decide) ?_
    refine lv_istore_n (lv' := [(1, .int 0), (0, .ref h0)]) hx hb dX3_findFaces_10 rfl hl (by decide) rfl (fun ls hl => ?_)
    exact hL11 FU 0 ss SA SB SC SE l1 l2 l3 c1 c2 c3 f1 f2 f3 _ _ _ hF hP hD hS (lv_sub hl [1, 0] rfl)
  · replace hF := it_n c_1 hF
    exact W.vret hx hb hr (fun t ht hW => ⟨⟨(ss, SA, SB, SC, SE, l1, l2, l3, c1, c2, c3, f1, f2, f3), rfl, so_e hF, qW_mk ht hP hK hW hD⟩, hS.F ht⟩) hS.2.2 dX3_findFaces_8
