abbrev wNo (G : GT)  : va_W := []
abbrev wPts (G : GT) (h0 ax ay az : Nat) (n : Nat) (sz0 : Int32) (X : Nat → Int32) (Y : Nat → Int32) (Z : Nat → Int32) : va_W := [(h0, .inr (4, [.ref ax, .ref ay, .ref az, .int sz0])), (ax, .inl (gI G, n, .inl X)), (ay, .inl (gI G, n, .inl Y)), (az, .inl (gI G, n, .inl Z))]
abbrev wPts2 (G : GT) (h0 ax ay az g0 bX bY bZ : Nat) (n n2 : Nat) (sz0 : Int32) (X : Nat → Int32) (Y : Nat → Int32) (Z : Nat → Int32) (sz1 : Int32) (U : Nat → Int32) (V : Nat → Int32) (T : Nat → Int32) : va_W := [(h0, .inr (4, [.ref ax, .ref ay, .ref az, .int sz0])), (ax, .inl (gI G, n, .inl X)), (ay, .inl (gI G, n, .inl Y)), (az, .inl (gI G, n, .inl Z)), (g0, .inr (4, [.ref bX, .ref bY, .ref bZ, .int sz1])), (bX, .inl (gI G, n2, .inl U)), (bY, .inl (gI G, n2, .inl V)), (bZ, .inl (gI G, n2, .inl T))]
def fX4_put (n : Nat) (sz0 : Int32) (X : Nat → Int32) (Y : Nat → Int32) (Z : Nat → Int32) (p1 : Int32) (p2 : Int32) (p3 : Int32) : Option (Int32 × (Nat → Int32) × (Nat → Int32) × (Nat → Int32)) :=
  (if nI n ≤ sz0 then (some (sz0, X, Y, Z)) else (gd_in sz0 n (some (sz0 + 1, upd X sz0.toNatClampNeg p1, upd Y sz0.toNatClampNeg p2, upd Z sz0.toNatClampNeg p3))))
abbrev rX4_put : Room := { frames := 0, cells := 0, slots := 0, locals := 0 }
set_option maxHeartbeats 40000000 in
set_option maxRecDepth 100000 in
theorem kX4_put (l : Launch) (G : GT) (h0 ax ay az : Nat) (sz : Nat) (n : Nat) (sz0 : Int32) (X : Nat → Int32) (Y : Nat → Int32) (Z : Nat → Int32) (p1 : Int32) (p2 : Int32) (p3 : Int32) (res : Int32 × (Nat → Int32) × (Nat → Int32) × (Nat → Int32)) (hF : fX4_put n sz0 X Y Z p1 p2 p3 = some res) : Met l yX4_put wsX4_put rX4_put (va_Pc [.ref h0, .int p1, .int p2, .int p3] (pW G sz (wPts G h0 ax ay az n sz0 X Y Z))) (va_Qv (fun (u : Int32 × (Nat → Int32) × (Nat → Int32) × (Nat → Int32)) => u = res) (fun u t => qW G (va_A (wPts G h0 ax ay az n sz0 X Y Z) sz) (wPts G h0 ax ay az n u.1 u.2.1 u.2.2.1 u.2.2.2) t) (va_A (wPts G h0 ax ay az n sz0 X Y Z) sz)) 0 0 (va_A (wPts G h0 ax ay az n sz0 X Y Z) sz) := by
  refine Met.ofW (cc := cX4_put) (maxL := 4) (ret := none) (by decide) rfl ?_
  intro p e s m args below meth c s₁ B hml hv
  obtain ⟨rfl, hsz, hP, hK, hD0⟩ := hv
  have hx := B.exec
  have hb := B.bytes
  have hr := B.returns
  have hts := atoms_spec (ws := wsX4_put) B.pre
  have hown : s.vm.findClass RX4 = some m.cls := findClass_of_methodNamed B.named
  have hlocks := B.notSynchronized
  subst hsz
  have hD := hD0.self (sz := s.heap.size)
  generalize hAe : va_A (wPts G h0 ax ay az n sz0 X Y Z) s.heap.size = A at hD ⊢
  have hA : ∀ q : Nat, s.heap.size ≤ q → A q := fun q h => by rw [← hAe]; exact Or.inr h
  have hS : va_S A s.heap s.heap [] := va_S.rf
  have hin4 : ∀ w ∈ u_ws RX4 TX4 4, w ∈ wsX4_put := by decide +kernel
  have hfl27 := hts (.fieldLink RX4 27 "SwellBodies$Points" "size" "I") (by decide +kernel)
  have hfl15 := hts (.fieldLink RX4 15 "SwellBodies$Points" "x" "[I") (by decide +kernel)
  have hfl21 := hts (.fieldLink RX4 21 "SwellBodies$Points" "y" "[I") (by decide +kernel)
  have hfl24 := hts (.fieldLink RX4 24 "SwellBodies$Points" "z" "[I") (by decide +kernel)
  have hl := lv_entry ([.ref h0, .int p1, .int p2, .int p3]) (n := 4) (Nat.le_of_ble_eq_true rfl)
  rw [lg_entry_eq]
  generalize (lg_sl ([.ref h0, .int p1, .int p2, .int p3]) ++ List.replicate (4 - (lg_sl ([.ref h0, .int p1, .int p2, .int p3])).length) Slot.unset).toArray = ls at hl ⊢
  have hl : lv_has ls 4 [(0, .ref h0), (1, .int p1), (2, .int p2), (3, .int p3)] := hl
  unfold fX4_put at hF
  refine lv_aload_n hx hb dX4_put_0 rfl (lv_at hl 0 rfl) ?_
  refine va_get (ci := 4) (v := .int sz0) (C := RX4) (T := TX4) (N := 4) hx hb hts hin4 hown hK hP 0 rfl rfl 3 (by decide) hfl27 (fun _ h9 => h9) rfl dX4_put_1 ?_
  refine lv_aload_n hx hb dX4_put_4 rfl (lv_at hl 0 rfl) ?_
  refine va_get (ci := 4) (v := .ref ax) (C := RX4) (T := TX4) (N := 4) hx hb hts hin4 hown hK hP 0 rfl rfl 0 (by decide) hfl15 (fun _ h9 => h9) rfl dX4_put_5 ?_
  refine va_alen (v := nI n) hx hb hK hP 1 0 rfl rfl rfl dX4_put_8 ?_
  refine lv_icmp_ge (tgt := 52) hx hb dX4_put_9 (by decide) (fun c_1 => ?_) (fun c_1 => ?_)
  · replace hF := it_p c_1 hF
    exact W.vret hx hb hr (fun t ht hW => ⟨⟨(sz0, X, Y, Z), rfl, so_e hF, qW_mk ht hP hK hW hD⟩, hS.F ht⟩) hS.2.2 dX4_put_52
  · replace hF := it_n c_1 hF
    refine lv_aload_n hx hb dX4_put_12 rfl (lv_at hl 0 rfl) ?_
    refine va_get (ci := 4) (v := .ref ax) (C := RX4) (T := TX4) (N := 4) hx hb hts hin4 hown hK hP 0 rfl rfl 0 (by decide) hfl15 (fun _ h9 => h9) rfl dX4_put_13 ?_
    refine lv_aload_n hx hb dX4_put_16 rfl (lv_at hl 0 rfl) ?_
    refine va_get (ci := 4) (v := .int sz0) (C := RX4) (T := TX4) (N := 4) hx hb hts hin4 hown hK hP 0 rfl rfl 3 (by decide) hfl27 (fun _ h9 => h9) rfl dX4_put_17 ?_
    refine lv_iload_n hx hb dX4_put_20 rfl (lv_at hl 1 rfl) ?_
    obtain ⟨hi_2, hF⟩ := gd_in_s hF
    refine va_iast hx hb hK hP hD hS 1 0 rfl rfl hi_2 dX4_put_21 (fun H locs hP hD hS => ?_)
    have hP : va_P (gD G) vwCl (wPts G h0 ax ay az n sz0 (upd X sz0.toNatClampNeg p1) Y Z) H := hP
    have hD : va_D A (wPts G h0 ax ay az n sz0 (upd X sz0.toNatClampNeg p1) Y Z) := hD
    refine lv_aload_n hx hb dX4_put_22 rfl (lv_at hl 0 rfl) ?_
    refine va_get (ci := 4) (v := .ref ay) (C := RX4) (T := TX4) (N := 4) hx hb hts hin4 hown hK hP 0 rfl rfl 1 (by decide) hfl21 (fun _ h9 => h9) rfl dX4_put_23 ?_
    refine lv_aload_n hx hb dX4_put_26 rfl (lv_at hl 0 rfl) ?_
    refine va_get (ci := 4) (v := .int sz0) (C := RX4) (T := TX4) (N := 4) hx hb hts hin4 hown hK hP 0 rfl rfl 3 (by decide) hfl27 (fun _ h9 => h9) rfl dX4_put_27 ?_
    refine lv_iload_n hx hb dX4_put_30 rfl (lv_at hl 2 rfl) ?_
    refine va_iast hx hb hK hP hD hS 2 0 rfl rfl hi_2 dX4_put_31 (fun H locs hP hD hS => ?_)
    have hP : va_P (gD G) vwCl (wPts G h0 ax ay az n sz0 (upd X sz0.toNatClampNeg p1) (upd Y sz0.toNatClampNeg p2) Z) H := hP
    have hD : va_D A (wPts G h0 ax ay az n sz0 (upd X sz0.toNatClampNeg p1) (upd Y sz0.toNatClampNeg p2) Z) := hD
    refine lv_aload_n hx hb dX4_put_32 rfl (lv_at hl 0 rfl) ?_
    refine va_get (ci := 4) (v := .ref az) (C := RX4) (T := TX4) (N := 4) hx hb hts hin4 hown hK hP 0 rfl rfl 2 (by decide) hfl24 (fun _ h9 => h9) rfl dX4_put_33 ?_
    refine lv_aload_n hx hb dX4_put_36 rfl (lv_at hl 0 rfl) ?_
    refine va_get (ci := 4) (v := .int sz0) (C := RX4) (T := TX4) (N := 4) hx hb hts hin4 hown hK hP 0 rfl rfl 3 (by decide) hfl27 (fun _ h9 => h9) rfl dX4_put_37 ?_
    refine lv_iload_n hx hb dX4_put_40 rfl (lv_at hl 3 rfl) ?_
    refine va_iast hx hb hK hP hD hS 3 0 rfl rfl hi_2 dX4_put_41 (fun H locs hP hD hS => ?_)
    have hP : va_P (gD G) vwCl (wPts G h0 ax ay az n sz0 (upd X sz0.toNatClampNeg p1) (upd Y sz0.toNatClampNeg p2) (upd Z sz0.toNatClampNeg p3)) H := hP
    have hD : va_D A (wPts G h0 ax ay az n sz0 (upd X sz0.toNatClampNeg p1) (upd Y sz0.toNatClampNeg p2) (upd Z sz0.toNatClampNeg p3)) := hD
    refine lv_aload_n hx hb dX4_put_42 rfl (lv_at hl 0 rfl) ?_
    refine lv_dup hx hb dX4_put_43 rfl ?_
    refine va_get (ci := 4) (v := .int sz0) (C := RX4) (T := TX4) (N := 4) hx hb hts hin4 hown hK hP 0 rfl rfl 3 (by decide) hfl27 (fun _ h9 => h9) rfl dX4_put_44 ?_
    refine lv_iconst (v := 1) hx hb dX4_put_47 (by decide) ?_
    refine lv_iadd hx hb dX4_put_48 ?_
    refine va_put (ci := 4) (v := .int (sz0 + 1)) (ty := .int) (C := RX4) (T := TX4) (N := 4) hx hb hts hin4 tyX4 tyX4_ok nmX4 hown hK hP hD hS 0 rfl rfl 3 (by decide) hfl27 (fun _ h9 => h9) rfl (by decide +kernel) rfl rfl (Nat.le_of_ble_eq_true rfl) dX4_put_49 (fun H locs hP hD hS => ?_)
    have hP : va_P (gD G) vwCl (wPts G h0 ax ay az n (sz0 + 1) (upd X sz0.toNatClampNeg p1) (upd Y sz0.toNatClampNeg p2) (upd Z sz0.toNatClampNeg p3)) H := hP
    have hD : va_D A (wPts G h0 ax ay az n (sz0 + 1) (upd X sz0.toNatClampNeg p1) (upd Y sz0.toNatClampNeg p2) (upd Z sz0.toNatClampNeg p3)) := hD
    exact W.vret hx hb hr (fun t ht hW => ⟨⟨(sz0 + 1, upd X sz0.toNatClampNeg p1, upd Y sz0.toNatClampNeg p2, upd Z sz0.toNatClampNeg p3), rfl, so_e hF, qW_mk ht hP hK hW hD⟩, hS.F ht⟩) hS.2.2 dX4_put_52
def fX4_part (n : Nat) (sz0 : Int32) (X : Nat → Int32) (Y : Nat → Int32) (Z : Nat → Int32) (p1 : Int32) (p2 : Int32) : Option (Int32) :=
  (if p1 < 0 then (some 1000) else (if p1 < sz0 then (if p2 = 0 then (gd_in p1 n (some (X p1.toNatClampNeg))) else (if p2 = 1 then (gd_in p1 n (some (Y p1.toNatClampNeg))) else (gd_in p1 n (some (Z p1.toNatClampNeg))))) else (some 1000)))
abbrev rX4_part : Room := { frames := 0, cells := 0, slots := 0, locals := 0 }
set_option maxHeartbeats 40000000 in
set_option maxRecDepth 100000 in
theorem kX4_part (l : Launch) (G : GT) (h0 ax ay az : Nat) (n : Nat) (sz0 : Int32) (X : Nat → Int32) (Y : Nat → Int32) (Z : Nat → Int32) (p1 : Int32) (p2 : Int32) (res : Int32) (hF : fX4_part n sz0 X Y Z p1 p2 = some res) : Met l yX4_part wsX4_part rX4_part (va_Pc [.ref h0, .int p1, .int p2] (pR G (wPts G h0 ax ay az n sz0 X Y Z))) (vp_Si (fun r => r = res)) 0 0 (fun _ => False) := by
  refine Met.ofW (cc := cX4_part) (maxL := 3) (ret := (some .int)) (by decide) rfl ?_
  intro p e s m args below meth c s₁ B hml hv
  obtain ⟨rfl, hP, hK⟩ := hv
  have hx := B.exec
  have hb := B.bytes
  have hr := B.returns
  have hts := atoms_spec (ws := wsX4_part) B.pre
  have hown : s.vm.findClass RX4 = some m.cls := findClass_of_methodNamed B.named
  have hlocks := B.notSynchronized
  have hin4 : ∀ w ∈ u_ws RX4 TX4 4, w ∈ wsX4_part := by decide +kernel
  have hfl27 := hts (.fieldLink RX4 27 "SwellBodies$Points" "size" "I") (by decide +kernel)
  have hfl15 := hts (.fieldLink RX4 15 "SwellBodies$Points" "x" "[I") (by decide +kernel)
  have hfl21 := hts (.fieldLink RX4 21 "SwellBodies$Points" "y" "[I") (by decide +kernel)
  have hfl24 := hts (.fieldLink RX4 24 "SwellBodies$Points" "z" "[I") (by decide +kernel)
  have hl := lv_entry ([.ref h0, .int p1, .int p2]) (n := 3) (Nat.le_of_ble_eq_true rfl)
  rw [lg_entry_eq]
  generalize (lg_sl ([.ref h0, .int p1, .int p2]) ++ List.replicate (3 - (lg_sl ([.ref h0, .int p1, .int p2])).length) Slot.unset).toArray = ls at hl ⊢
  have hl : lv_has ls 3 [(0, .ref h0), (1, .int p1), (2, .int p2)] := hl
  unfold fX4_part at hF
  refine lv_iload_n hx hb dX4_part_0 rfl (lv_at hl 1 rfl) ?_
  refine lv_if_lt (tgt := 12) hx hb dX4_part_1 (by decide) (fun c_1 => ?_) (fun c_1 => ?_)
  · replace hF := it_p c_1 hF
    refine lv_sipush (v := 1000) hx hb dX4_part_12 (by decide) ?_
    exact W.iret (v := 1000) hx hb hr  (fun t ht hW => ⟨1000, rfl, (so_e hF), ht⟩) (fun q h => absurd h List.not_mem_nil) dX4_part_15
  · replace hF := it_n c_1 hF
    refine lv_iload_n hx hb dX4_part_4 rfl (lv_at hl 1 rfl) ?_
    refine lv_aload_n hx hb dX4_part_5 rfl (lv_at hl 0 rfl) ?_
    refine va_get (ci := 4) (v := .int sz0) (C := RX4) (T := TX4) (N := 4) hx hb hts hin4 hown hK hP 0 rfl rfl 3 (by decide) hfl27 (fun _ h9 => h9) rfl dX4_part_6 ?_
    refine lv_icmp_lt (tgt := 16) hx hb dX4_part_9 (by decide) (fun c_2 => ?_) (fun c_2 => ?_)
    · replace hF := it_p c_2 hF
      refine lv_iload_n hx hb dX4_part_16 rfl (lv_at hl 2 rfl) ?_
      by_cases c_3 : p2 = 0
      · replace hF := it_p c_3 hF
        refine lv_lookup (off := 27) (tgt := 44) hx hb dX4_part_17 (by decide) (by rw [c_3]; decide) (by decide) ?_
        refine lv_aload_n hx hb dX4_part_44 rfl (lv_at hl 0 rfl) ?_
        refine va_get (ci := 4) (v := .ref ax) (C := RX4) (T := TX4) (N := 4) hx hb hts hin4 hown hK hP 0 rfl rfl 0 (by decide) hfl15 (fun _ h9 => h9) rfl dX4_part_45 ?_
        refine lv_iload_n hx hb dX4_part_48 rfl (lv_at hl 1 rfl) ?_
        obtain ⟨hi_4, hF⟩ := gd_in_s hF
        refine va_iald hx hb hK hP 1 0 rfl rfl hi_4 dX4_part_49 ?_
        exact W.iret (v := X p1.toNatClampNeg) hx hb hr  (fun t ht hW => ⟨X p1.toNatClampNeg, rfl, (so_e hF), ht⟩) (fun q h => absurd h List.not_mem_nil) dX4_part_50
      · replace hF := it_n c_3 hF
        by_cases c_5 : p2 = 1
        · replace hF := it_p c_5 hF
          refine lv_lookup (off := 34) (tgt := 51) hx hb dX4_part_17 (by decide) (by rw [c_5]; decide) (by decide) ?_
          refine lv_aload_n hx hb dX4_part_51 rfl (lv_at hl 0 rfl) ?_
          refine va_get (ci := 4) (v := .ref ay) (C := RX4) (T := TX4) (N := 4) hx hb hts hin4 hown hK hP 0 rfl rfl 1 (by decide) hfl21 (fun _ h9 => h9) rfl dX4_part_52 ?_
          refine lv_iload_n hx hb dX4_part_55 rfl (lv_at hl 1 rfl) ?_
          obtain ⟨hi_6, hF⟩ := gd_in_s hF
          refine va_iald hx hb hK hP 2 0 rfl rfl hi_6 dX4_part_56 ?_
          exact W.iret (v := Y p1.toNatClampNeg) hx hb hr  (fun t ht hW => ⟨Y p1.toNatClampNeg, rfl, (so_e hF), ht⟩) (fun q h => absurd h List.not_mem_nil) dX4_part_57
        · replace hF := it_n c_5 hF
          refine lv_lookup (off := 41) (tgt := 58) hx hb dX4_part_17 (by decide) (by have e0 : p2.toInt ≠ 0 := ne_t c_3; have e1 : p2.toInt ≠ 1 := ne_t c_5; simp [Op.lookupswitch.offset, e0, e0.symm, e1, e1.symm]) (by decide) ?_
          refine lv_aload_n hx hb dX4_part_58 rfl (lv_at hl 0 rfl) ?_
          refine va_get (ci := 4) (v := .ref az) (C := RX4) (T := TX4) (N := 4) hx hb hts hin4 hown hK hP 0 rfl rfl 2 (by decide) hfl24 (fun _ h9 => h9) rfl dX4_part_59 ?_
          refine lv_iload_n hx hb dX4_part_62 rfl (lv_at hl 1 rfl) ?_
          obtain ⟨hi_7, hF⟩ := gd_in_s hF
          refine va_iald hx hb hK hP 3 0 rfl rfl hi_7 dX4_part_63 ?_
          exact W.iret (v := Z p1.toNatClampNeg) hx hb hr  (fun t ht hW => ⟨Z p1.toNatClampNeg, rfl, (so_e hF), ht⟩) (fun q h => absurd h List.not_mem_nil) dX4_part_64
    · replace hF := it_n c_2 hF
      refine lv_sipush (v := 1000) hx hb dX4_part_12 (by decide) ?_
      exact W.iret (v := 1000) hx hb hr  (fun t ht hW => ⟨1000, rfl, (so_e hF), ht⟩) (fun q h => absurd h List.not_mem_nil) dX4_part_15
def fX4_compare (n : Nat) (n2 : Nat) (X : Nat → Int32) (Y : Nat → Int32) (Z : Nat → Int32) (U : Nat → Int32) (V : Nat → Int32) (T : Nat → Int32) (p1 : Int32) (p2 : Int32) : Option (Int32) :=
  (gd_in p1 n (gd_in p2 n2 (if X p1.toNatClampNeg = U p2.toNatClampNeg then (if Y p1.toNatClampNeg = V p2.toNatClampNeg then (some ((Z p1.toNatClampNeg) - (T p2.toNatClampNeg))) else (some ((Y p1.toNatClampNeg) - (V p2.toNatClampNeg)))) else (some ((X p1.toNatClampNeg) - (U p2.toNatClampNeg))))))
abbrev rX4_compare : Room := { frames := 0, cells := 0, slots := 0, locals := 0 }
set_option maxHeartbeats 40000000 in
set_option maxRecDepth 100000 in
theorem kX4_compare (l : Launch) (G : GT) (h0 ax ay az g0 bX bY bZ : Nat) (n n2 : Nat) (sz0 : Int32) (X : Nat → Int32) (Y : Nat → Int32) (Z : Nat → Int32) (sz1 : Int32) (U : Nat → Int32) (V : Nat → Int32) (T : Nat → Int32) (p1 : Int32) (p2 : Int32) (res : Int32) (hF : fX4_compare n n2 X Y Z U V T p1 p2 = some res) : Met l yX4_compare wsX4_compare rX4_compare (va_Pc [.ref h0, .int p1, .ref g0, .int p2] (pR G (wPts2 G h0 ax ay az g0 bX bY bZ n n2 sz0 X Y Z sz1 U V T))) (vp_Si (fun r => r = res)) 0 0 (fun _ => False) := by
  refine Met.ofW (cc := cX4_compare) (maxL := 4) (ret := (some .int)) (by decide) rfl ?_
  intro p e s m args below meth c s₁ B hml hv
  obtain ⟨rfl, hP, hK⟩ := hv
  have hx := B.exec
  have hb := B.bytes
  have hr := B.returns
  have hts := atoms_spec (ws := wsX4_compare) B.pre
  have hown : s.vm.findClass RX4 = some m.cls := findClass_of_methodNamed B.named
  have hlocks := B.notSynchronized
  have hin4 : ∀ w ∈ u_ws RX4 TX4 4, w ∈ wsX4_compare := by decide +kernel
  have hfl15 := hts (.fieldLink RX4 15 "SwellBodies$Points" "x" "[I") (by decide +kernel)
  have hfl21 := hts (.fieldLink RX4 21 "SwellBodies$Points" "y" "[I") (by decide +kernel)
  have hfl24 := hts (.fieldLink RX4 24 "SwellBodies$Points" "z" "[I") (by decide +kernel)
  have hl := lv_entry ([.ref h0, .int p1, .ref g0, .int p2]) (n := 4) (Nat.le_of_ble_eq_true rfl)
  rw [lg_entry_eq]
  generalize (lg_sl ([.ref h0, .int p1, .ref g0, .int p2]) ++ List.replicate (4 - (lg_sl ([.ref h0, .int p1, .ref g0, .int p2])).length) Slot.unset).toArray = ls at hl ⊢
  have hl : lv_has ls 4 [(0, .ref h0), (1, .int p1), (2, .ref g0), (3, .int p2)] := hl
  unfold fX4_compare at hF
  refine lv_aload_n hx hb dX4_compare_0 rfl (lv_at hl 0 rfl) ?_
  refine va_get (ci := 4) (v := .ref ax) (C := RX4) (T := TX4) (N := 4) hx hb hts hin4 hown hK hP 0 rfl rfl 0 (by decide) hfl15 (fun _ h9 => h9) rfl dX4_compare_1 ?_
  refine lv_iload_n hx hb dX4_compare_4 rfl (lv_at hl 1 rfl) ?_
  obtain ⟨hi_1, hF⟩ := gd_in_s hF
  refine va_iald hx hb hK hP 1 0 rfl rfl hi_1 dX4_compare_5 ?_
  refine lv_aload_n hx hb dX4_compare_6 rfl (lv_at hl 2 rfl) ?_
  refine va_get (ci := 4) (v := .ref bX) (C := RX4) (T := TX4) (N := 4) hx hb hts hin4 hown hK hP 4 rfl rfl 0 (by decide) hfl15 (fun _ h9 => h9) rfl dX4_compare_7 ?_
  refine lv_iload_n hx hb dX4_compare_10 rfl (lv_at hl 3 rfl) ?_
  obtain ⟨hi_2, hF⟩ := gd_in_s hF
  refine va_iald hx hb hK hP 5 0 rfl rfl hi_2 dX4_compare_11 ?_
  refine lv_icmp_eq (tgt := 29) hx hb dX4_compare_12 (by decide) (fun c_3 => ?_) (fun c_3 => ?_)
  · replace hF := it_p c_3 hF
    refine lv_aload_n hx hb dX4_compare_29 rfl (lv_at hl 0 rfl) ?_
    refine va_get (ci := 4) (v := .ref ay) (C := RX4) (T := TX4) (N := 4) hx hb hts hin4 hown hK hP 0 rfl rfl 1 (by decide) hfl21 (fun _ h9 => h9) rfl dX4_compare_30 ?_
    refine lv_iload_n hx hb dX4_compare_33 rfl (lv_at hl 1 rfl) ?_
    refine va_iald hx hb hK hP 2 0 rfl rfl hi_1 dX4_compare_34 ?_
    refine lv_aload_n hx hb dX4_compare_35 rfl (lv_at hl 2 rfl) ?_
    refine va_get (ci := 4) (v := .ref bY) (C := RX4) (T := TX4) (N := 4) hx hb hts hin4 hown hK hP 4 rfl rfl 1 (by decide) hfl21 (fun _ h9 => h9) rfl dX4_compare_36 ?_
    refine lv_iload_n hx hb dX4_compare_39 rfl (lv_at hl 3 rfl) ?_
    refine va_iald hx hb hK hP 6 0 rfl rfl hi_2 dX4_compare_40 ?_
    refine lv_icmp_eq (tgt := 58) hx hb dX4_compare_41 (by decide) (fun c_4 => ?_) (fun c_4 => ?_)
    · replace hF := it_p c_4 hF
      refine lv_aload_n hx hb dX4_compare_58 rfl (lv_at hl 0 rfl) ?_
      refine va_get (ci := 4) (v := .ref az) (C := RX4) (T := TX4) (N := 4) hx hb hts hin4 hown hK hP 0 rfl rfl 2 (by decide) hfl24 (fun _ h9 => h9) rfl dX4_compare_59 ?_
      refine lv_iload_n hx hb dX4_compare_62 rfl (lv_at hl 1 rfl) ?_
      refine va_iald hx hb hK hP 3 0 rfl rfl hi_1 dX4_compare_63 ?_
      refine lv_aload_n hx hb dX4_compare_64 rfl (lv_at hl 2 rfl) ?_
      refine va_get (ci := 4) (v := .ref bZ) (C := RX4) (T := TX4) (N := 4) hx hb hts hin4 hown hK hP 4 rfl rfl 2 (by decide) hfl24 (fun _ h9 => h9) rfl dX4_compare_65 ?_
      refine lv_iload_n hx hb dX4_compare_68 rfl (lv_at hl 3 rfl) ?_
      refine va_iald hx hb hK hP 7 0 rfl rfl hi_2 dX4_compare_69 ?_
      refine lv_isub hx hb dX4_compare_70 ?_
      exact W.iret (v := (Z p1.toNatClampNeg) - (T p2.toNatClampNeg)) hx hb hr  (fun t ht hW => ⟨(Z p1.toNatClampNeg) - (T p2.toNatClampNeg), rfl, (so_e hF), ht⟩) (fun q h => absurd h List.not_mem_nil) dX4_compare_71
    · replace hF := it_n c_4 hF
      refine lv_aload_n hx hb dX4_compare_44 rfl (lv_at hl 0 rfl) ?_
      refine va_get (ci := 4) (v := .ref ay) (C := RX4) (T := TX4) (N := 4) hx hb hts hin4 hown hK hP 0 rfl rfl 1 (by decide) hfl21 (fun _ h9 => h9) rfl dX4_compare_45 ?_
      refine lv_iload_n hx hb dX4_compare_48 rfl (lv_at hl 1 rfl) ?_
      refine va_iald hx hb hK hP 2 0 rfl rfl hi_1 dX4_compare_49 ?_
      refine lv_aload_n hx hb dX4_compare_50 rfl (lv_at hl 2 rfl) ?_
      refine va_get (ci := 4) (v := .ref bY) (C := RX4) (T := TX4) (N := 4) hx hb hts hin4 hown hK hP 4 rfl rfl 1 (by decide) hfl21 (fun _ h9 => h9) rfl dX4_compare_51 ?_
      refine lv_iload_n hx hb dX4_compare_54 rfl (lv_at hl 3 rfl) ?_
      refine va_iald hx hb hK hP 6 0 rfl rfl hi_2 dX4_compare_55 ?_
      refine lv_isub hx hb dX4_compare_56 ?_
      exact W.iret (v := (Y p1.toNatClampNeg) - (V p2.toNatClampNeg)) hx hb hr  (fun t ht hW => ⟨(Y p1.toNatClampNeg) - (V p2.toNatClampNeg), rfl, (so_e hF), ht⟩) (fun q h => absurd h List.not_mem_nil) dX4_compare_57
  · replace hF := it_n c_3 hF
    refine lv_aload_n hx hb dX4_compare_15 rfl (lv_at hl 0 rfl) ?_
    refine va_get (ci := 4) (v := .ref ax) (C := RX4) (T := TX4) (N := 4) hx hb hts hin4 hown hK hP 0 rfl rfl 0 (by decide) hfl15 (fun _ h9 => h9) rfl dX4_compare_16 ?_
    refine lv_iload_n hx hb dX4_compare_19 rfl (lv_at hl 1 rfl) ?_
    refine va_iald hx hb hK hP 1 0 rfl rfl hi_1 dX4_compare_20 ?_
    refine lv_aload_n hx hb dX4_compare_21 rfl (lv_at hl 2 rfl) ?_
    refine va_get (ci := 4) (v := .ref bX) (C := RX4) (T := TX4) (N := 4) hx hb hts hin4 hown hK hP 4 rfl rfl 0 (by decide) hfl15 (fun _ h9 => h9) rfl dX4_compare_22 ?_
    refine lv_iload_n hx hb dX4_compare_25 rfl (lv_at hl 3 rfl) ?_
    refine va_iald hx hb hK hP 5 0 rfl rfl hi_2 dX4_compare_26 ?_
    refine lv_isub hx hb dX4_compare_27 ?_
    exact W.iret (v := (X p1.toNatClampNeg) - (U p2.toNatClampNeg)) hx hb hr  (fun t ht hW => ⟨(X p1.toNatClampNeg) - (U p2.toNatClampNeg), rfl, (so_e hF), ht⟩) (fun q h => absurd h List.not_mem_nil) dX4_compare_28
def fX4_copy (n : Nat) (X : Nat → Int32) (Y : Nat → Int32) (Z : Nat → Int32) (p1 : Int32) (p2 : Int32) : Option ((Nat → Int32) × (Nat → Int32) × (Nat → Int32)) :=
  (gd_in p1 n (gd_in p2 n (some (upd X p2.toNatClampNeg (X p1.toNatClampNeg), upd Y p2.toNatClampNeg (Y p1.toNatClampNeg), upd Z p2.toNatClampNeg (Z p1.toNatClampNeg)))))
abbrev rX4_copy : Room := { frames := 0, cells := 0, slots := 0, locals := 0 }
set_option maxHeartbeats 40000000 in
set_option maxRecDepth 100000 in
theorem kX4_copy (l : Launch) (G : GT) (h0 ax ay az : Nat) (sz : Nat) (n : Nat) (sz0 : Int32) (X : Nat → Int32) (Y : Nat → Int32) (Z : Nat → Int32) (p1 : Int32) (p2 : Int32) (res : (Nat → Int32) × (Nat → Int32) × (Nat → Int32)) (hF : fX4_copy n X Y Z p1 p2 = some res) : Met l yX4_copy wsX4_copy rX4_copy (va_Pc [.ref h0, .int p1, .int p2] (pW G sz (wPts G h0 ax ay az n sz0 X Y Z))) (va_Qv (fun (u : (Nat → Int32) × (Nat → Int32) × (Nat → Int32)) => u = res) (fun u t => qW G (va_A (wPts G h0 ax ay az n sz0 X Y Z) sz) (wPts G h0 ax ay az n sz0 u.1 u.2.1 u.2.2) t) (va_A (wPts G h0 ax ay az n sz0 X Y Z) sz)) 0 0 (va_A (wPts G h0 ax ay az n sz0 X Y Z) sz) := by
  refine Met.ofW (cc := cX4_copy) (maxL := 3) (ret := none) (by decide) rfl ?_
  intro p e s m args below meth c s₁ B hml hv
  obtain ⟨rfl, hsz, hP, hK, hD0⟩ := hv
  have hx := B.exec
  have hb := B.bytes
  have hr := B.returns
  have hts := atoms_spec (ws := wsX4_copy) B.pre
  have hown : s.vm.findClass RX4 = some m.cls := findClass_of_methodNamed B.named
  have hlocks := B.notSynchronized
  subst hsz
  have hD := hD0.self (sz := s.heap.size)
  generalize hAe : va_A (wPts G h0 ax ay az n sz0 X Y Z) s.heap.size = A at hD ⊢
  have hA : ∀ q : Nat, s.heap.size ≤ q → A q := fun q h => by rw [← hAe]; exact Or.inr h
  have hS : va_S A s.heap s.heap [] := va_S.rf
  have hin4 : ∀ w ∈ u_ws RX4 TX4 4, w ∈ wsX4_copy := by decide +kernel
  have hfl15 := hts (.fieldLink RX4 15 "SwellBodies$Points" "x" "[I") (by decide +kernel)
  have hfl21 := hts (.fieldLink RX4 21 "SwellBodies$Points" "y" "[I") (by decide +kernel)
  have hfl24 := hts (.fieldLink RX4 24 "SwellBodies$Points" "z" "[I") (by decide +kernel)
  have hl := lv_entry ([.ref h0, .int p1, .int p2]) (n := 3) (Nat.le_of_ble_eq_true rfl)
  rw [lg_entry_eq]
  generalize (lg_sl ([.ref h0, .int p1, .int p2]) ++ List.replicate (3 - (lg_sl ([.ref h0, .int p1, .int p2])).length) Slot.unset).toArray = ls at hl ⊢
  have hl : lv_has ls 3 [(0, .ref h0), (1, .int p1), (2, .int p2)] := hl
  unfold fX4_copy at hF
  refine lv_aload_n hx hb dX4_copy_0 rfl (lv_at hl 0 rfl) ?_
  refine va_get (ci := 4) (v := .ref ax) (C := RX4) (T := TX4) (N := 4) hx hb hts hin4 hown hK hP 0 rfl rfl 0 (by decide) hfl15 (fun _ h9 => h9) rfl dX4_copy_1 ?_
  refine lv_iload_n hx hb dX4_copy_4 rfl (lv_at hl 2 rfl) ?_
  refine lv_aload_n hx hb dX4_copy_5 rfl (lv_at hl 0 rfl) ?_
  refine va_get (ci := 4) (v := .ref ax) (C := RX4) (T := TX4) (N := 4) hx hb hts hin4 hown hK hP 0 rfl rfl 0 (by decide) hfl15 (fun _ h9 => h9) rfl dX4_copy_6 ?_
  refine lv_iload_n hx hb dX4_copy_9 rfl (lv_at hl 1 rfl) ?_
  obtain ⟨hi_1, hF⟩ := gd_in_s hF
  refine va_iald hx hb hK hP 1 0 rfl rfl hi_1 dX4_copy_10 ?_
  obtain ⟨hi_2, hF⟩ := gd_in_s hF
  refine va_iast hx hb hK hP hD hS 1 0 rfl rfl hi_2 dX4_copy_11 (fun H locs hP hD hS => ?_)
  have hP : va_P (gD G) vwCl (wPts G h0 ax ay az n sz0 (upd X p2.toNatClampNeg (X p1.toNatClampNeg)) Y Z) H := hP
  have hD : va_D A (wPts G h0 ax ay az n sz0 (upd X p2.toNatClampNeg (X p1.toNatClampNeg)) Y Z) := hD
  refine lv_aload_n hx hb dX4_copy_12 rfl (lv_at hl 0 rfl) ?_
  refine va_get (ci := 4) (v := .ref ay) (C := RX4) (T := TX4) (N := 4) hx hb hts hin4 hown hK hP 0 rfl rfl 1 (by decide) hfl21 (fun _ h9 => h9) rfl dX4_copy_13 ?_
  refine lv_iload_n hx hb dX4_copy_16 rfl (lv_at hl 2 rfl) ?_
  refine lv_aload_n hx hb dX4_copy_17 rfl (lv_at hl 0 rfl) ?_
  refine va_get (ci := 4) (v := .ref ay) (C := RX4) (T := TX4) (N := 4) hx hb hts hin4 hown hK hP 0 rfl rfl 1 (by decide) hfl21 (fun _ h9 => h9) rfl dX4_copy_18 ?_
  refine lv_iload_n hx hb dX4_copy_21 rfl (lv_at hl 1 rfl) ?_
  refine va_iald hx hb hK hP 2 0 rfl rfl hi_1 dX4_copy_22 ?_
  refine va_iast hx hb hK hP hD hS 2 0 rfl rfl hi_2 dX4_copy_23 (fun H locs hP hD hS => ?_)
  have hP : va_P (gD G) vwCl (wPts G h0 ax ay az n sz0 (upd X p2.toNatClampNeg (X p1.toNatClampNeg)) (upd Y p2.toNatClampNeg (Y p1.toNatClampNeg)) Z) H := hP
  have hD : va_D A (wPts G h0 ax ay az n sz0 (upd X p2.toNatClampNeg (X p1.toNatClampNeg)) (upd Y p2.toNatClampNeg (Y p1.toNatClampNeg)) Z) := hD
  refine lv_aload_n hx hb dX4_copy_24 rfl (lv_at hl 0 rfl) ?_
  refine va_get (ci := 4) (v := .ref az) (C := RX4) (T := TX4) (N := 4) hx hb hts hin4 hown hK hP 0 rfl rfl 2 (by decide) hfl24 (fun _ h9 => h9) rfl dX4_copy_25 ?_
  refine lv_iload_n hx hb dX4_copy_28 rfl (lv_at hl 2 rfl) ?_
  refine lv_aload_n hx hb dX4_copy_29 rfl (lv_at hl 0 rfl) ?_
  refine va_get (ci := 4) (v := .ref az) (C := RX4) (T := TX4) (N := 4) hx hb hts hin4 hown hK hP 0 rfl rfl 2 (by decide) hfl24 (fun _ h9 => h9) rfl dX4_copy_30 ?_
  refine lv_iload_n hx hb dX4_copy_33 rfl (lv_at hl 1 rfl) ?_
  refine va_iald hx hb hK hP 3 0 rfl rfl hi_1 dX4_copy_34 ?_
  refine va_iast hx hb hK hP hD hS 3 0 rfl rfl hi_2 dX4_copy_35 (fun H locs hP hD hS => ?_)
  have hP : va_P (gD G) vwCl (wPts G h0 ax ay az n sz0 (upd X p2.toNatClampNeg (X p1.toNatClampNeg)) (upd Y p2.toNatClampNeg (Y p1.toNatClampNeg)) (upd Z p2.toNatClampNeg (Z p1.toNatClampNeg))) H := hP
  have hD : va_D A (wPts G h0 ax ay az n sz0 (upd X p2.toNatClampNeg (X p1.toNatClampNeg)) (upd Y p2.toNatClampNeg (Y p1.toNatClampNeg)) (upd Z p2.toNatClampNeg (Z p1.toNatClampNeg))) := hD
  exact W.vret hx hb hr (fun t ht hW => ⟨⟨(upd X p2.toNatClampNeg (X p1.toNatClampNeg), upd Y p2.toNatClampNeg (Y p1.toNatClampNeg), upd Z p2.toNatClampNeg (Z p1.toNatClampNeg)), rfl, so_e hF, qW_mk ht hP hK hW hD⟩, hS.F ht⟩) hS.2.2 dX4_copy_36
def fX4_swap (n : Nat) (X : Nat → Int32) (Y : Nat → Int32) (Z : Nat → Int32) (p1 : Int32) (p2 : Int32) : Option ((Nat → Int32) × (Nat → Int32) × (Nat → Int32)) :=
  (gd_in p1 n (bd (fX4_copy n X Y Z p2 p1) (fun v_2 => (gd_in p2 n (some (upd v_2.1 p2.toNatClampNeg (X p1.toNatClampNeg), upd v_2.2.1 p2.toNatClampNeg (Y p1.toNatClampNeg), upd v_2.2.2 p2.toNatClampNeg (Z p1.toNatClampNeg)))))))
abbrev rX4_swap : Room := { frames := 1, cells := 0, slots := 0, locals := 22 }
set_option maxHeartbeats 40000000 in
set_option maxRecDepth 100000 in
theorem kX4_swap (l : Launch) (G : GT) (h0 ax ay az : Nat) (sz : Nat) (n : Nat) (sz0 : Int32) (X : Nat → Int32) (Y : Nat → Int32) (Z : Nat → Int32) (p1 : Int32) (p2 : Int32) (res : (Nat → Int32) × (Nat → Int32) × (Nat → Int32)) (hF : fX4_swap n X Y Z p1 p2 = some res) : Met l yX4_swap wsX4_swap rX4_swap (va_Pc [.ref h0, .int p1, .int p2] (pW G sz (wPts G h0 ax ay az n sz0 X Y Z))) (va_Qv (fun (u : (Nat → Int32) × (Nat → Int32) × (Nat → Int32)) => u = res) (fun u t => qW G (va_A (wPts G h0 ax ay az n sz0 X Y Z) sz) (wPts G h0 ax ay az n sz0 u.1 u.2.1 u.2.2) t) (va_A (wPts G h0 ax ay az n sz0 X Y Z) sz)) 0 0 (va_A (wPts G h0 ax ay az n sz0 X Y Z) sz) := by
  refine Met.ofW (cc := cX4_swap) (maxL := 6) (ret := none) (by decide) rfl ?_
  intro p e s m args below meth c s₁ B hml hv
  obtain ⟨rfl, hsz, hP, hK, hD0⟩ := hv
  have hx := B.exec
  have hb := B.bytes
  have hr := B.returns
  have hts := atoms_spec (ws := wsX4_swap) B.pre
  have hown : s.vm.findClass RX4 = some m.cls := findClass_of_methodNamed B.named
  have hlocks := B.notSynchronized
  subst hsz
  have hD := hD0.self (sz := s.heap.size)
  generalize hAe : va_A (wPts G h0 ax ay az n sz0 X Y Z) s.heap.size = A at hD ⊢
  have hA : ∀ q : Nat, s.heap.size ≤ q → A q := fun q h => by rw [← hAe]; exact Or.inr h
  have hS : va_S A s.heap s.heap [] := va_S.rf
  have hin4 : ∀ w ∈ u_ws RX4 TX4 4, w ∈ wsX4_swap := by decide +kernel
  have hfl15 := hts (.fieldLink RX4 15 "SwellBodies$Points" "x" "[I") (by decide +kernel)
  have hfl21 := hts (.fieldLink RX4 21 "SwellBodies$Points" "y" "[I") (by decide +kernel)
  have hfl24 := hts (.fieldLink RX4 24 "SwellBodies$Points" "z" "[I") (by decide +kernel)
  have hl := lv_entry ([.ref h0, .int p1, .int p2]) (n := 6) (Nat.le_of_ble_eq_true rfl)
  rw [lg_entry_eq]
  generalize (lg_sl ([.ref h0, .int p1, .int p2]) ++ List.replicate (6 - (lg_sl ([.ref h0, .int p1, .int p2])).length) Slot.unset).toArray = ls at hl ⊢
  have hl : lv_has ls 6 [(0, .ref h0), (1, .int p1), (2, .int p2)] := hl
  unfold fX4_swap at hF
  refine lv_aload_n hx hb dX4_swap_0 rfl (lv_at hl 0 rfl) ?_
  refine va_get (ci := 4) (v := .ref ax) (C := RX4) (T := TX4) (N := 4) hx hb hts hin4 hown hK hP 0 rfl rfl 0 (by decide) hfl15 (fun _ h9 => h9) rfl dX4_swap_1 ?_
  refine lv_iload_n hx hb dX4_swap_4 rfl (lv_at hl 1 rfl) ?_
  obtain ⟨hi_1, hF⟩ := gd_in_s hF
  refine va_iald hx hb hK hP 1 0 rfl rfl hi_1 dX4_swap_5 ?_
  refine lv_istore_n (lv' := [(3, .int (X p1.toNatClampNeg)), (0, .ref h0), (1, .int p1), (2, .int p2)]) hx hb dX4_swap_6 rfl hl (by decide) rfl (fun ls hl => ?_)
  refine lv_aload_n hx hb dX4_swap_7 rfl (lv_at hl 1 rfl) ?_
  refine va_get (ci := 4) (v := .ref ay) (C := RX4) (T := TX4) (N := 4) hx hb hts hin4 hown hK hP 0 rfl rfl 1 (by decide) hfl21 (fun _ h9 => h9) rfl dX4_swap_8 ?_
  refine lv_iload_n hx hb dX4_swap_11 rfl (lv_at hl 2 rfl) ?_
  refine va_iald hx hb hK hP 2 0 rfl rfl hi_1 dX4_swap_12 ?_
  refine lv_istore (lv' := [(4, .int (Y p1.toNatClampNeg)), (3, .int (X p1.toNatClampNeg)), (0, .ref h0), (1, .int p1), (2, .int p2)]) hx hb dX4_swap_13 hl (by decide) rfl (fun ls hl => ?_)
  refine lv_aload_n hx hb dX4_swap_15 rfl (lv_at hl 2 rfl) ?_
  refine va_get (ci := 4) (v := .ref az) (C := RX4) (T := TX4) (N := 4) hx hb hts hin4 hown hK hP 0 rfl rfl 2 (by decide) hfl24 (fun _ h9 => h9) rfl dX4_swap_16 ?_
  refine lv_iload_n hx hb dX4_swap_19 rfl (lv_at hl 3 rfl) ?_
  refine va_iald hx hb hK hP 3 0 rfl rfl hi_1 dX4_swap_20 ?_
  refine lv_istore (lv' := [(5, .int (Z p1.toNatClampNeg)), (4, .int (Y p1.toNatClampNeg)), (3, .int (X p1.toNatClampNeg)), (0, .ref h0), (1, .int p1), (2, .int p2)]) hx hb dX4_swap_21 hl (by decide) rfl (fun ls hl => ?_)
  refine lv_aload_n hx hb dX4_swap_23 rfl (lv_at hl 3 rfl) ?_
  refine lv_iload_n hx hb dX4_swap_24 rfl (lv_at hl 5 rfl) ?_
  refine lv_iload_n hx hb dX4_swap_25 rfl (lv_at hl 4 rfl) ?_
  obtain ⟨v_2, hv_2, hF⟩ := bd_s hF
  refine rw_ve (wf := (fun (u : (Nat → Int32) × (Nat → Int32) × (Nat → Int32)) => (wPts G h0 ax ay az n sz0 u.1 u.2.1 u.2.2))) (wr := []) (va_runV (As := [.int p2, .int p1]) (rest := []) ⟨hx, hb, hml, hown, hts⟩ (kX4_copy l G h0 ax ay az s.heap.size n sz0 X Y Z p2 p1 v_2 hv_2) (cwV 2 hts gX4_swap_X4_copy rfl rfl rfl (by decide +kernel) ⟨Nat.le_of_ble_eq_true rfl, Nat.le_of_ble_eq_true rfl⟩) (pvW (q0 := 0) 4 hK (hP.sub (ws' := (wPts G h0 ax ay az n sz0 X Y Z)) [0, 1, 2, 3] rfl) (hD.sub (ws' := (wPts G h0 ax ay az n sz0 X Y Z)) [0, 1, 2, 3] (by decide) rfl) rfl rfl) rfl rfl hl.1 rfl (lv_room (Nat.le_of_ble_eq_true rfl)) dX4_swap_26 ⟨Nat.le_of_ble_eq_true rfl, Nat.le_of_ble_eq_true rfl⟩) hP hD hS hA [0, 1, 2, 3] [] rfl rfl (by decide) (by decide) (fun H locs  hP hD hS => ?_)
  have hP : va_P (gD G) vwCl (wPts G h0 ax ay az n sz0 v_2.1 v_2.2.1 v_2.2.2) H := hP.sub [0, 1, 2, 3] rfl
  have hD : va_D A (wPts G h0 ax ay az n sz0 v_2.1 v_2.2.1 v_2.2.2) := hD.sub [0, 1, 2, 3] (by decide) rfl
  refine lv_aload_n hx hb dX4_swap_29 rfl (lv_at hl 3 rfl) ?_
  refine va_get (ci := 4) (v := .ref ax) (C := RX4) (T := TX4) (N := 4) hx hb hts hin4 hown hK hP 0 rfl rfl 0 (by decide) hfl15 (fun _ h9 => h9) rfl dX4_swap_30 ?_
  refine lv_iload_n hx hb dX4_swap_33 rfl (lv_at hl 5 rfl) ?_
  refine lv_iload_n hx hb dX4_swap_34 rfl (lv_at hl 2 rfl) ?_
  obtain ⟨hi_3, hF⟩ := gd_in_s hF
  refine va_iast hx hb hK hP hD hS 1 0 rfl rfl hi_3 dX4_swap_35 (fun H locs hP hD hS => ?_)
  have hP : va_P (gD G) vwCl (wPts G h0 ax ay az n sz0 (upd v_2.1 p2.toNatClampNeg (X p1.toNatClampNeg)) v_2.2.1 v_2.2.2) H := hP
  have hD : va_D A (wPts G h0 ax ay az n sz0 (upd v_2.1 p2.toNatClampNeg (X p1.toNatClampNeg)) v_2.2.1 v_2.2.2) := hD
  refine lv_aload_n hx hb dX4_swap_36 rfl (lv_at hl 3 rfl) ?_
  refine va_get (ci := 4) (v := .ref ay) (C := RX4) (T := TX4) (N := 4) hx hb hts hin4 hown hK hP 0 rfl rfl 1 (by decide) hfl21 (fun _ h9 => h9) rfl dX4_swap_37 ?_
  refine lv_iload_n hx hb dX4_swap_40 rfl (lv_at hl 5 rfl) ?_
  refine lv_iload hx hb dX4_swap_41 (lv_at hl 1 rfl) ?_
  refine va_iast hx hb hK hP hD hS 2 0 rfl rfl hi_3 dX4_swap_43 (fun H locs hP hD hS => ?_)
  have hP : va_P (gD G) vwCl (wPts G h0 ax ay az n sz0 (upd v_2.1 p2.toNatClampNeg (X p1.toNatClampNeg)) (upd v_2.2.1 p2.toNatClampNeg (Y p1.toNatClampNeg)) v_2.2.2) H := hP
  have hD : va_D A (wPts G h0 ax ay az n sz0 (upd v_2.1 p2.toNatClampNeg (X p1.toNatClampNeg)) (upd v_2.2.1 p2.toNatClampNeg (Y p1.toNatClampNeg)) v_2.2.2) := hD
  refine lv_aload_n hx hb dX4_swap_44 rfl (lv_at hl 3 rfl) ?_
  refine va_get (ci := 4) (v := .ref az) (C := RX4) (T := TX4) (N := 4) hx hb hts hin4 hown hK hP 0 rfl rfl 2 (by decide) hfl24 (fun _ h9 => h9) rfl dX4_swap_45 ?_
  refine lv_iload_n hx hb dX4_swap_48 rfl (lv_at hl 5 rfl) ?_
  refine lv_iload hx hb dX4_swap_49 (lv_at hl 0 rfl) ?_
  refine va_iast hx hb hK hP hD hS 3 0 rfl rfl hi_3 dX4_swap_51 (fun H locs hP hD hS => ?_)
  have hP : va_P (gD G) vwCl (wPts G h0 ax ay az n sz0 (upd v_2.1 p2.toNatClampNeg (X p1.toNatClampNeg)) (upd v_2.2.1 p2.toNatClampNeg (Y p1.toNatClampNeg)) (upd v_2.2.2 p2.toNatClampNeg (Z p1.toNatClampNeg))) H := hP
  have hD : va_D A (wPts G h0 ax ay az n sz0 (upd v_2.1 p2.toNatClampNeg (X p1.toNatClampNeg)) (upd v_2.2.1 p2.toNatClampNeg (Y p1.toNatClampNeg)) (upd v_2.2.2 p2.toNatClampNeg (Z p1.toNatClampNeg))) := hD
  exact W.vret hx hb hr (fun t ht hW => ⟨⟨(upd v_2.1 p2.toNatClampNeg (X p1.toNatClampNeg), upd v_2.2.1 p2.toNatClampNeg (Y p1.toNatClampNeg), upd v_2.2.2 p2.toNatClampNeg (Z p1.toNatClampNeg)), rfl, so_e hF, qW_mk ht hP hK hW hD⟩, hS.F ht⟩) hS.2.2 dX4_swap_52
def LX4_sort_12 (n : Nat) (sz0 : Int32) (k42 : Int32 → (Nat → Int32) → (Nat → Int32) → (Nat → Int32) → Option ((Nat → Int32) × (Nat → Int32) × (Nat → Int32))) : Nat → Int32 → Int32 → (Nat → Int32) → (Nat → Int32) → (Nat → Int32) → Option ((Nat → Int32) × (Nat → Int32) × (Nat → Int32))
  | 0, _, _, _, _, _ => none
  | k + 1, a1, a2, mX, mY, mZ =>
  (if a2 ≤ 0 then (k42 a1 mX mY mZ) else (bd (fX4_compare n n mX mY mZ mX mY mZ (a2 - 1) a2) (fun v_3 => (if v_3 ≤ 0 then (k42 a1 mX mY mZ) else (bd (fX4_swap n mX mY mZ (a2 - 1) a2) (fun v_5 => (LX4_sort_12 n sz0 k42 k a1 (a2 + (-1)) v_5.1 v_5.2.1 v_5.2.2)))))))
def LX4_sort_2 (n : Nat) (sz0 : Int32)  : Nat → Int32 → (Nat → Int32) → (Nat → Int32) → (Nat → Int32) → Option ((Nat → Int32) × (Nat → Int32) × (Nat → Int32))
  | 0, _, _, _, _ => none
  | k + 1, a1, mX, mY, mZ =>
  (if sz0 ≤ a1 then (some (mX, mY, mZ)) else (LX4_sort_12 n sz0 (fun a1 mX mY mZ => (LX4_sort_2 n sz0 k (a1 + 1) mX mY mZ)) FU a1 a1 mX mY mZ))
def fX4_sort (n : Nat) (sz0 : Int32) (X : Nat → Int32) (Y : Nat → Int32) (Z : Nat → Int32) : Option ((Nat → Int32) × (Nat → Int32) × (Nat → Int32)) :=
  (LX4_sort_2 n sz0 FU 1 X Y Z)
abbrev rX4_sort : Room := { frames := 2, cells := 0, slots := 0, locals := 47 }
set_option maxHeartbeats 40000000 in
set_option maxRecDepth 100000 in
theorem kX4_sort (l : Launch) (G : GT) (h0 ax ay az : Nat) (sz : Nat) (n : Nat) (sz0 : Int32) (X : Nat → Int32) (Y : Nat → Int32) (Z : Nat → Int32) (res : (Nat → Int32) × (Nat → Int32) × (Nat → Int32)) (hF : fX4_sort n sz0 X Y Z = some res) : Met l yX4_sort wsX4_sort rX4_sort (va_Pc [.ref h0] (pW G sz (wPts G h0 ax ay az n sz0 X Y Z))) (va_Qv (fun (u : (Nat → Int32) × (Nat → Int32) × (Nat → Int32)) => u = res) (fun u t => qW G (va_A (wPts G h0 ax ay az n sz0 X Y Z) sz) (wPts G h0 ax ay az n sz0 u.1 u.2.1 u.2.2) t) (va_A (wPts G h0 ax ay az n sz0 X Y Z) sz)) 0 0 (va_A (wPts G h0 ax ay az n sz0 X Y Z) sz) := by
  refine Met.ofW (cc := cX4_sort) (maxL := 3) (ret := none) (by decide) rfl ?_
  intro p e s m args below meth c s₁ B hml hv
  obtain ⟨rfl, hsz, hP, hK, hD0⟩ := hv
  have hx := B.exec
  have hb := B.bytes
  have hr := B.returns
  have hts := atoms_spec (ws := wsX4_sort) B.pre
  have hown : s.vm.findClass RX4 = some m.cls := findClass_of_methodNamed B.named
  have hlocks := B.notSynchronized
  subst hsz
  have hD := hD0.self (sz := s.heap.size)
  generalize hAe : va_A (wPts G h0 ax ay az n sz0 X Y Z) s.heap.size = A at hD ⊢
  have hA : ∀ q : Nat, s.heap.size ≤ q → A q := fun q h => by rw [← hAe]; exact Or.inr h
  have hS : va_S A s.heap s.heap [] := va_S.rf
  have hin4 : ∀ w ∈ u_ws RX4 TX4 4, w ∈ wsX4_sort := by decide +kernel
  have hfl27 := hts (.fieldLink RX4 27 "SwellBodies$Points" "size" "I") (by decide +kernel)
  have hl := lv_entry ([.ref h0]) (n := 3) (Nat.le_of_ble_eq_true rfl)
  rw [lg_entry_eq]
  generalize (lg_sl ([.ref h0]) ++ List.replicate (3 - (lg_sl ([.ref h0])).length) Slot.unset).toArray = ls at hl ⊢
  have hl : lv_has ls 3 [(0, .ref h0)] := hl
  have hL12 : ∀ (k42 : Int32 → (Nat → Int32) → (Nat → Int32) → (Nat → Int32) → Option ((Nat → Int32) × (Nat → Int32) × (Nat → Int32))), (∀ (a1 : Int32) (mX : Nat → Int32) (mY : Nat → Int32) (mZ : Nat → Int32) (H : Heap) (locs : List Loc) (ls : Array Slot), k42 a1 mX mY mZ = some res → va_P (gD G) vwCl (wPts G h0 ax ay az n sz0 mX mY mZ) H → va_D A (wPts G h0 ax ay az n sz0 mX mY mZ) → va_S A s.heap H locs → lv_has ls 3 [(0, .ref h0), (1, .int a1)] → W p l e (headSpec wsX4_sort rX4_sort).room s m ([.ref h0] : List Value).toArray below meth c H locs 0 0 (MQ below (va_Qv (fun (u : (Nat → Int32) × (Nat → Int32) × (Nat → Int32)) => u = res) (fun u t => qW G A (wPts G h0 ax ay az n sz0 u.1 u.2.1 u.2.2) t) A) ([.ref h0] : List Value).toArray s 0 0 A) (F0 m 42 ls [])) → ∀ (k : Nat), ∀ (a1 : Int32) (a2 : Int32) (mX : Nat → Int32) (mY : Nat → Int32) (mZ : Nat → Int32) (H : Heap) (locs : List Loc) (ls : Array Slot), LX4_sort_12 n sz0 k42 k a1 a2 mX mY mZ = some res → va_P (gD G) vwCl (wPts G h0 ax ay az n sz0 mX mY mZ) H → va_D A (wPts G h0 ax ay az n sz0 mX mY mZ) → va_S A s.heap H locs → lv_has ls 3 [(0, .ref h0), (1, .int a1), (2, .int a2)] → W p l e (headSpec wsX4_sort rX4_sort).room s m ([.ref h0] : List Value).toArray below meth c H locs 0 0 (MQ below (va_Qv (fun (u : (Nat → Int32) × (Nat → Int32) × (Nat → Int32)) => u = res) (fun u t => qW G A (wPts G h0 ax ay az n sz0 u.1 u.2.1 u.2.2) t) A) ([.ref h0] : List Value).toArray s 0 0 A) (F0 m 12 ls []) := by
    intro k42 hk42
    intro k
    induction k with
    | zero =>
      intro a1 a2 mX mY mZ H locs ls hF hP hD hS hl
      rw [LX4_sort_12] at hF
      cases hF
    | succ k ih =>
      intro a1 a2 mX mY mZ H locs ls hF hP hD hS hl
      rw [LX4_sort_12] at hF
      refine lv_iload_n hx hb dX4_sort_12 rfl (lv_at hl 2 rfl) ?_
      refine lv_if_le (tgt := 42) hx hb dX4_sort_13 (by decide) (fun c_2 => ?_) (fun c_2 => ?_)
      · replace hF := it_p c_2 hF
        exact hk42 a1 mX mY mZ _ _ _ hF hP hD hS (lv_sub hl [0, 1] rfl)
      · replace hF := it_n c_2 hF
        refine lv_aload_n hx hb dX4_sort_16 rfl (lv_at hl 0 rfl) ?_
        refine lv_iload_n hx hb dX4_sort_17 rfl (lv_at hl 2 rfl) ?_
        refine lv_iconst (v := 1) hx hb dX4_sort_18 (by decide) ?_
        refine lv_isub hx hb dX4_sort_19 ?_
        refine lv_aload_n hx hb dX4_sort_20 rfl (lv_at hl 0 rfl) ?_
        refine lv_iload_n hx hb dX4_sort_21 rfl (lv_at hl 2 rfl) ?_
        obtain ⟨v_3, hv_3, hF⟩ := bd_s hF
        refine ro_ie (va_runV (As := [.int (a2 - 1), .ref h0, .int a2]) (rest := []) ⟨hx, hb, hml, hown, hts⟩ (kX4_compare l G h0 ax ay az h0 ax ay az n n sz0 mX mY mZ sz0 mX mY mZ (a2 - 1) a2 v_3 hv_3) (cwV 3 hts gX4_sort_X4_compare rfl rfl rfl (by decide +kernel) ⟨Nat.le_of_ble_eq_true rfl, Nat.le_of_ble_eq_true rfl⟩) (pvR (q0 := 0) 4 hK (hP.sub (ws' := (wPts2 G h0 ax ay az h0 ax ay az n n sz0 mX mY mZ sz0 mX mY mZ)) [0, 1, 2, 3, 0, 1, 2, 3] rfl) rfl rfl) rfl rfl hl.1 rfl (lv_room (Nat.le_of_ble_eq_true rfl)) dX4_sort_22 ⟨Nat.le_of_ble_eq_true rfl, Nat.le_of_ble_eq_true rfl⟩) ?_
        refine lv_if_le (tgt := 42) hx hb dX4_sort_25 (by decide) (fun c_4 => ?_) (fun c_4 => ?_)
        · replace hF := it_p c_4 hF
          exact hk42 a1 mX mY mZ _ _ _ hF hP hD hS (lv_sub hl [0, 1] rfl)
        · replace hF := it_n c_4 hF
          refine lv_aload_n hx hb dX4_sort_28 rfl (lv_at hl 0 rfl) ?_
          refine lv_iload_n hx hb dX4_sort_29 rfl (lv_at hl 2 rfl) ?_
          refine lv_iconst (v := 1) hx hb dX4_sort_30 (by decide) ?_
          refine lv_isub hx hb dX4_sort_31 ?_
          refine lv_iload_n hx hb dX4_sort_32 rfl (lv_at hl 2 rfl) ?_
          obtain ⟨v_5, hv_5, hF⟩ := bd_s hF
          refine rw_ve (wf := (fun (u : (Nat → Int32) × (Nat → Int32) × (Nat → Int32)) => (wPts G h0 ax ay az n sz0 u.1 u.2.1 u.2.2))) (wr := []) (va_runV (As := [.int (a2 - 1), .int a2]) (rest := []) ⟨hx, hb, hml, hown, hts⟩ (kX4_swap l G h0 ax ay az H.size n sz0 mX mY mZ (a2 - 1) a2 v_5 hv_5) (cwV 2 hts gX4_sort_X4_swap rfl rfl rfl (by decide +kernel) ⟨Nat.le_of_ble_eq_true rfl, Nat.le_of_ble_eq_true rfl⟩) (pvW (q0 := 0) 4 hK (hP.sub (ws' := (wPts G h0 ax ay az n sz0 mX mY mZ)) [0, 1, 2, 3] rfl) (hD.sub (ws' := (wPts G h0 ax ay az n sz0 mX mY mZ)) [0, 1, 2, 3] (by decide) rfl) rfl rfl) rfl rfl hl.1 rfl (lv_room (Nat.le_of_ble_eq_true rfl)) dX4_sort_33 ⟨Nat.le_of_ble_eq_true rfl, Nat.le_of_ble_eq_true rfl⟩) hP hD hS hA [0, 1, 2, 3] [] rfl rfl (by decide) (by decide) (fun H locs  hP hD hS => ?_)
          have hP : va_P (gD G) vwCl (wPts G h0 ax ay az n sz0 v_5.1 v_5.2.1 v_5.2.2) H := hP.sub [0, 1, 2, 3] rfl
          have hD : va_D A (wPts G h0 ax ay az n sz0 v_5.1 v_5.2.1 v_5.2.2) := hD.sub [0, 1, 2, 3] (by decide) rfl
          refine lv_iinc (v := a2 + (-1)) (lv' := [(2, .int (a2 + (-1))), (0, .ref h0), (1, .int a1)]) hx hb dX4_sort_36 hl (k := 2) rfl rfl (by decide) rfl (fun ls hl => ?_)
          refine lv_goto (tgt := 12) hx hb dX4_sort_39 (by decide) ?_
          exact ih a1 (a2 + (-1)) v_5.1 v_5.2.1 v_5.2.2 _ _ _ hF hP hD hS (lv_sub hl [1, 2, 0] rfl)
  have hL2 : ∀ (k : Nat), ∀ (a1 : Int32) (mX : Nat → Int32) (mY : Nat → Int32) (mZ : Nat → Int32) (H : Heap) (locs : List Loc) (ls : Array Slot), LX4_sort_2 n sz0 k a1 mX mY mZ = some res → va_P (gD G) vwCl (wPts G h0 ax ay az n sz0 mX mY mZ) H → va_D A (wPts G h0 ax ay az n sz0 mX mY mZ) → va_S A s.heap H locs → lv_has ls 3 [(0, .ref h0), (1, .int a1)] → W p l e (headSpec wsX4_sort rX4_sort).room s m ([.ref h0] : List Value).toArray below meth c H locs 0 0 (MQ below (va_Qv (fun (u : (Nat → Int32) × (Nat → Int32) × (Nat → Int32)) => u = res) (fun u t => qW G A (wPts G h0 ax ay az n sz0 u.1 u.2.1 u.2.2) t) A) ([.ref h0] : List Value).toArray s 0 0 A) (F0 m 2 ls []) := by
    intro k
    induction k with
    | zero =>
      intro a1 mX mY mZ H locs ls hF hP hD hS hl
      rw [LX4_sort_2] at hF
      cases hF
    | succ k ih =>
      intro a1 mX mY mZ H locs ls hF hP hD hS hl
      rw [LX4_sort_2] at hF
      refine lv_iload_n hx hb dX4_sort_2 rfl (lv_at hl 1 rfl) ?_
      refine lv_aload_n hx hb dX4_sort_3 rfl (lv_at hl 0 rfl) ?_
      refine va_get (ci := 4) (v := .int sz0) (C := RX4) (T := TX4) (N := 4) hx hb hts hin4 hown hK hP 0 rfl rfl 3 (by decide) hfl27 (fun _ h9 => h9) rfl dX4_sort_4 ?_
      refine lv_icmp_ge (tgt := 48) hx hb dX4_sort_7 (by decide) (fun c_1 => ?_) (fun c_1 => ?_)
      · replace hF := it_p c_1 hF
        exact W.vret hx hb hr (fun t ht hW => ⟨⟨(mX, mY, mZ), rfl, so_e hF, qW_mk ht hP hK hW hD⟩, hS.F ht⟩) hS.2.2 dX4_sort_48
      · replace hF := it_n c_1 hF
        refine lv_iload_n hx hb dX4_sort_10 rfl (lv_at hl 1 rfl) ?_
        refine lv_istore_n (lv' := [(2, .int a1), (0, .ref h0), (1, .int a1)]) hx hb dX4_sort_11 rfl hl (by decide) rfl (fun ls hl => ?_)
        refine hL12 _ ?_ FU a1 a1 mX mY mZ _ _ _ hF hP hD hS (lv_sub hl [1, 2, 0] rfl)
        · intro a1 mX mY mZ H locs ls hF hP hD hS hl
          refine lv_iinc (v := a1 + 1) (lv' := [(1, .int (a1 + 1)), (0, .ref h0)]) hx hb dX4_sort_42 hl (k := 1) rfl rfl (by decide) rfl (fun ls hl => ?_)
          refine lv_goto (tgt := 2) hx hb dX4_sort_45 (by decide) ?_
          exact ih (a1 + 1) mX mY mZ _ _ _ hF hP hD hS (lv_sub hl [1, 0] rfl)
  unfold fX4_sort at hF
  refine lv_iconst (v := 1) hx hb dX4_sort_0 (by decide) ?_
  refine lv_istore_n (lv' := [(1, .int 1), (0, .ref h0)]) hx hb dX4_sort_1 rfl hl (by decide) rfl (fun ls hl => ?_)
  exact hL2 FU 1 X Y Z _ _ _ hF hP hD hS (lv_sub hl [1, 0] rfl)
def fX4_inRow (n : Nat) (X : Nat → Int32) (Y : Nat → Int32) (Z : Nat → Int32) (p1 : Int32) (p2 : Int32) (p3 : Int32) : Option (Int32) :=
  (gd_in p2 n (gd_in p1 n (cut ((X p2.toNatClampNeg) - (X p1.toNatClampNeg)) (fun c_3 => (cut ((Y p2.toNatClampNeg) - (Y p1.toNatClampNeg)) (fun c_4 => (cut ((Z p2.toNatClampNeg) - (Z p1.toNatClampNeg)) (fun c_5 => (gd_in p3 n (cut ((X p3.toNatClampNeg) - (X p1.toNatClampNeg)) (fun c_7 => (cut ((Y p3.toNatClampNeg) - (Y p1.toNatClampNeg)) (fun c_8 => (cut ((Z p3.toNatClampNeg) - (Z p1.toNatClampNeg)) (fun c_9 => (if c_4 * c_9 = c_5 * c_8 then (if c_5 * c_7 = c_3 * c_9 then (if c_3 * c_8 = c_4 * c_7 then (some 1) else (some 0)) else (some 0)) else (some 0)))))))))))))))))
abbrev rX4_inRow : Room := { frames := 0, cells := 0, slots := 0, locals := 0 }
set_option maxHeartbeats 40000000 in
set_option maxRecDepth 100000 in
theorem kX4_inRow (l : Launch) (G : GT) (h0 ax ay az : Nat) (n : Nat) (sz0 : Int32) (X : Nat → Int32) (Y : Nat → Int32) (Z : Nat → Int32) (p1 : Int32) (p2 : Int32) (p3 : Int32) (res : Int32) (hF : fX4_inRow n X Y Z p1 p2 p3 = some res) : Met l yX4_inRow wsX4_inRow rX4_inRow (va_Pc [.ref h0, .int p1, .int p2, .int p3] (pR G (wPts G h0 ax ay az n sz0 X Y Z))) (vp_Si (fun r => r = res ∧ (r = 0 ∨ r = 1))) 0 0 (fun _ => False) := by
  refine Met.ofW (cc := cX4_inRow) (maxL := 10) (ret := (some .boolean)) (by decide) rfl ?_
  intro p e s m args below meth c s₁ B hml hv
  obtain ⟨rfl, hP, hK⟩ := hv
  have hx := B.exec
  have hb := B.bytes
  have hr := B.returns
  have hts := atoms_spec (ws := wsX4_inRow) B.pre
  have hown : s.vm.findClass RX4 = some m.cls := findClass_of_methodNamed B.named
  have hlocks := B.notSynchronized
  have hin4 : ∀ w ∈ u_ws RX4 TX4 4, w ∈ wsX4_inRow := by decide +kernel
  have hfl15 := hts (.fieldLink RX4 15 "SwellBodies$Points" "x" "[I") (by decide +kernel)
  have hfl21 := hts (.fieldLink RX4 21 "SwellBodies$Points" "y" "[I") (by decide +kernel)
  have hfl24 := hts (.fieldLink RX4 24 "SwellBodies$Points" "z" "[I") (by decide +kernel)
  have hl := lv_entry ([.ref h0, .int p1, .int p2, .int p3]) (n := 10) (Nat.le_of_ble_eq_true rfl)
  rw [lg_entry_eq]
  generalize (lg_sl ([.ref h0, .int p1, .int p2, .int p3]) ++ List.replicate (10 - (lg_sl ([.ref h0, .int p1, .int p2, .int p3])).length) Slot.unset).toArray = ls at hl ⊢
  have hl : lv_has ls 10 [(0, .ref h0), (1, .int p1), (2, .int p2), (3, .int p3)] := hl
  unfold fX4_inRow at hF
  refine lv_aload_n hx hb dX4_inRow_0 rfl (lv_at hl 0 rfl) ?_
  refine va_get (ci := 4) (v := .ref ax) (C := RX4) (T := TX4) (N := 4) hx hb hts hin4 hown hK hP 0 rfl rfl 0 (by decide) hfl15 (fun _ h9 => h9) rfl dX4_inRow_1 ?_
  refine lv_iload_n hx hb dX4_inRow_4 rfl (lv_at hl 2 rfl) ?_
  obtain ⟨hi_1, hF⟩ := gd_in_s hF
  refine va_iald hx hb hK hP 1 0 rfl rfl hi_1 dX4_inRow_5 ?_
  refine lv_aload_n hx hb dX4_inRow_6 rfl (lv_at hl 0 rfl) ?_
  refine va_get (ci := 4) (v := .ref ax) (C := RX4) (T := TX4) (N := 4) hx hb hts hin4 hown hK hP 0 rfl rfl 0 (by decide) hfl15 (fun _ h9 => h9) rfl dX4_inRow_7 ?_
  refine lv_iload_n hx hb dX4_inRow_10 rfl (lv_at hl 1 rfl) ?_
  obtain ⟨hi_2, hF⟩ := gd_in_s hF
  refine va_iald hx hb hK hP 1 0 rfl rfl hi_2 dX4_inRow_11 ?_
  refine lv_isub hx hb dX4_inRow_12 ?_
  refine lv_topi (fun c_3 ec_3 => ?_)
  replace hF := cut_at ec_3 hF
  refine lv_istore (lv' := [(4, .int c_3), (0, .ref h0), (1, .int p1), (2, .int p2), (3, .int p3)]) hx hb dX4_inRow_13 hl (by decide) rfl (fun ls hl => ?_)
  refine lv_aload_n hx hb dX4_inRow_15 rfl (lv_at hl 1 rfl) ?_
  refine va_get (ci := 4) (v := .ref ay) (C := RX4) (T := TX4) (N := 4) hx hb hts hin4 hown hK hP 0 rfl rfl 1 (by decide) hfl21 (fun _ h9 => h9) rfl dX4_inRow_16 ?_
  refine lv_iload_n hx hb dX4_inRow_19 rfl (lv_at hl 3 rfl) ?_
  refine va_iald hx hb hK hP 2 0 rfl rfl hi_1 dX4_inRow_20 ?_
  refine lv_aload_n hx hb dX4_inRow_21 rfl (lv_at hl 1 rfl) ?_
  refine va_get (ci := 4) (v := .ref ay) (C := RX4) (T := TX4) (N := 4) hx hb hts hin4 hown hK hP 0 rfl rfl 1 (by decide) hfl21 (fun _ h9 => h9) rfl dX4_inRow_22 ?_
  refine lv_iload_n hx hb dX4_inRow_25 rfl (lv_at hl 2 rfl) ?_
  refine va_iald hx hb hK hP 2 0 rfl rfl hi_2 dX4_inRow_26 ?_
  refine lv_isub hx hb dX4_inRow_27 ?_
  refine lv_topi (fun c_4 ec_4 => ?_)
  replace hF := cut_at ec_4 hF
  refine lv_istore (lv' := [(5, .int c_4), (4, .int c_3), (0, .ref h0), (1, .int p1), (2, .int p2), (3, .int p3)]) hx hb dX4_inRow_28 hl (by decide) rfl (fun ls hl => ?_)
  refine lv_aload_n hx hb dX4_inRow_30 rfl (lv_at hl 2 rfl) ?_
  refine va_get (ci := 4) (v := .ref az) (C := RX4) (T := TX4) (N := 4) hx hb hts hin4 hown hK hP 0 rfl rfl 2 (by decide) hfl24 (fun _ h9 => h9) rfl dX4_inRow_31 ?_
  refine lv_iload_n hx hb dX4_inRow_34 rfl (lv_at hl 4 rfl) ?_
  refine va_iald hx hb hK hP 3 0 rfl rfl hi_1 dX4_inRow_35 ?_
  refine lv_aload_n hx hb dX4_inRow_36 rfl (lv_at hl 2 rfl) ?_
  refine va_get (ci := 4) (v := .ref az) (C := RX4) (T := TX4) (N := 4) hx hb hts hin4 hown hK hP 0 rfl rfl 2 (by decide) hfl24 (fun _ h9 => h9) rfl dX4_inRow_37 ?_
  refine lv_iload_n hx hb dX4_inRow_40 rfl (lv_at hl 3 rfl) ?_
  refine va_iald hx hb hK hP 3 0 rfl rfl hi_2 dX4_inRow_41 ?_
  refine lv_isub hx hb dX4_inRow_42 ?_
  refine lv_topi (fun c_5 ec_5 => ?_)
  replace hF := cut_at ec_5 hF
  refine lv_istore (lv' := [(6, .int c_5), (5, .int c_4), (4, .int c_3), (0, .ref h0), (1, .int p1), (2, .int p2), (3, .int p3)]) hx hb dX4_inRow_43 hl (by decide) rfl (fun ls hl => ?_)
  refine lv_aload_n hx hb dX4_inRow_45 rfl (lv_at hl 3 rfl) ?_
  refine va_get (ci := 4) (v := .ref ax) (C := RX4) (T := TX4) (N := 4) hx hb hts hin4 hown hK hP 0 rfl rfl 0 (by decide) hfl15 (fun _ h9 => h9) rfl dX4_inRow_46 ?_
  refine lv_iload_n hx hb dX4_inRow_49 rfl (lv_at hl 6 rfl) ?_
  obtain ⟨hi_6, hF⟩ := gd_in_s hF
  refine va_iald hx hb hK hP 1 0 rfl rfl hi_6 dX4_inRow_50 ?_
  refine lv_aload_n hx hb dX4_inRow_51 rfl (lv_at hl 3 rfl) ?_
  refine va_get (ci := 4) (v := .ref ax) (C := RX4) (T := TX4) (N := 4) hx hb hts hin4 hown hK hP 0 rfl rfl 0 (by decide) hfl15 (fun _ h9 => h9) rfl dX4_inRow_52 ?_
  refine lv_iload_n hx hb dX4_inRow_55 rfl (lv_at hl 4 rfl) ?_
  refine va_iald hx hb hK hP 1 0 rfl rfl hi_2 dX4_inRow_56 ?_
  refine lv_isub hx hb dX4_inRow_57 ?_
  refine lv_topi (fun c_7 ec_7 => ?_)
  replace hF := cut_at ec_7 hF
  refine lv_istore (lv' := [(7, .int c_7), (6, .int c_5), (5, .int c_4), (4, .int c_3), (0, .ref h0), (1, .int p1), (2, .int p2), (3, .int p3)]) hx hb dX4_inRow_58 hl (by decide) rfl (fun ls hl => ?_)
  refine lv_aload_n hx hb dX4_inRow_60 rfl (lv_at hl 4 rfl) ?_
  refine va_get (ci := 4) (v := .ref ay) (C := RX4) (T := TX4) (N := 4) hx hb hts hin4 hown hK hP 0 rfl rfl 1 (by decide) hfl21 (fun _ h9 => h9) rfl dX4_inRow_61 ?_
  refine lv_iload_n hx hb dX4_inRow_64 rfl (lv_at hl 7 rfl) ?_
  refine va_iald hx hb hK hP 2 0 rfl rfl hi_6 dX4_inRow_65 ?_
  refine lv_aload_n hx hb dX4_inRow_66 rfl (lv_at hl 4 rfl) ?_
  refine va_get (ci := 4) (v := .ref ay) (C := RX4) (T := TX4) (N := 4) hx hb hts hin4 hown hK hP 0 rfl rfl 1 (by decide) hfl21 (fun _ h9 => h9) rfl dX4_inRow_67 ?_
  refine lv_iload_n hx hb dX4_inRow_70 rfl (lv_at hl 5 rfl) ?_
  refine va_iald hx hb hK hP 2 0 rfl rfl hi_2 dX4_inRow_71 ?_
  refine lv_isub hx hb dX4_inRow_72 ?_
  refine lv_topi (fun c_8 ec_8 => ?_)
  replace hF := cut_at ec_8 hF
  refine lv_istore (lv' := [(8, .int c_8), (7, .int c_7), (6, .int c_5), (5, .int c_4), (4, .int c_3), (0, .ref h0), (1, .int p1), (2, .int p2), (3, .int p3)]) hx hb dX4_inRow_73 hl (by decide) rfl (fun ls hl => ?_)
  refine lv_aload_n hx hb dX4_inRow_75 rfl (lv_at hl 5 rfl) ?_
  refine va_get (ci := 4) (v := .ref az) (C := RX4) (T := TX4) (N := 4) hx hb hts hin4 hown hK hP 0 rfl rfl 2 (by decide) hfl24 (fun _ h9 => h9) rfl dX4_inRow_76 ?_
  refine lv_iload_n hx hb dX4_inRow_79 rfl (lv_at hl 8 rfl) ?_
  refine va_iald hx hb hK hP 3 0 rfl rfl hi_6 dX4_inRow_80 ?_
  refine lv_aload_n hx hb dX4_inRow_81 rfl (lv_at hl 5 rfl) ?_
  refine va_get (ci := 4) (v := .ref az) (C := RX4) (T := TX4) (N := 4) hx hb hts hin4 hown hK hP 0 rfl rfl 2 (by decide) hfl24 (fun _ h9 => h9) rfl dX4_inRow_82 ?_
  refine lv_iload_n hx hb dX4_inRow_85 rfl (lv_at hl 6 rfl) ?_
  refine va_iald hx hb hK hP 3 0 rfl rfl hi_2 dX4_inRow_86 ?_
  refine lv_isub hx hb dX4_inRow_87 ?_
  refine lv_topi (fun c_9 ec_9 => ?_)
  replace hF := cut_at ec_9 hF
  refine lv_istore (lv' := [(9, .int c_9), (8, .int c_8), (7, .int c_7), (6, .int c_5), (5, .int c_4), (4, .int c_3), (0, .ref h0), (1, .int p1), (2, .int p2), (3, .int p3)]) hx hb dX4_inRow_88 hl (by decide) rfl (fun ls hl => ?_)
  refine lv_iload hx hb dX4_inRow_90 (lv_at hl 4 rfl) ?_
  refine lv_iload hx hb dX4_inRow_92 (lv_at hl 0 rfl) ?_
  refine lv_imul hx hb dX4_inRow_94 ?_
  refine lv_iload hx hb dX4_inRow_95 (lv_at hl 3 rfl) ?_
  refine lv_iload hx hb dX4_inRow_97 (lv_at hl 1 rfl) ?_
  refine lv_imul hx hb dX4_inRow_99 ?_
  refine lv_icmp_ne (tgt := 133) hx hb dX4_inRow_100 (by decide) (fun c_10 => ?_) (fun c_10 => ?_)
  · replace hF := it_n c_10 hF
    refine lv_iconst (v := 0) hx hb dX4_inRow_133 (by decide) ?_
    exact W.zret (v := 0) hx hb hr (by first | rfl | (rcases hF with h | h <;> rw [h] <;> rfl)) (fun t ht hW => ⟨0, rfl, ⟨so_e hF, (by first | exact Or.inl rfl | exact Or.inr rfl | assumption)⟩, ht⟩) (fun q h => absurd h List.not_mem_nil) dX4_inRow_134
  · replace hF := it_p c_10 hF
    refine lv_iload hx hb dX4_inRow_103 (lv_at hl 3 rfl) ?_
    refine lv_iload hx hb dX4_inRow_105 (lv_at hl 2 rfl) ?_
    refine lv_imul hx hb dX4_inRow_107 ?_
    refine lv_iload hx hb dX4_inRow_108 (lv_at hl 5 rfl) ?_
    refine lv_iload hx hb dX4_inRow_110 (lv_at hl 0 rfl) ?_
    refine lv_imul hx hb dX4_inRow_112 ?_
    refine lv_icmp_ne (tgt := 133) hx hb dX4_inRow_113 (by decide) (fun c_11 => ?_) (fun c_11 => ?_)
    · replace hF := it_n c_11 hF
      refine lv_iconst (v := 0) hx hb dX4_inRow_133 (by decide) ?_
      exact W.zret (v := 0) hx hb hr (by first | rfl | (rcases hF with h | h <;> rw [h] <;> rfl)) (fun t ht hW => ⟨0, rfl, ⟨so_e hF, (by first | exact Or.inl rfl | exact Or.inr rfl | assumption)⟩, ht⟩) (fun q h => absurd h List.not_mem_nil) dX4_inRow_134
    · replace hF := it_p c_11 hF
      refine lv_iload hx hb dX4_inRow_116 (lv_at hl 5 rfl) ?_
      refine lv_iload hx hb dX4_inRow_118 (lv_at hl 1 rfl) ?_
      refine lv_imul hx hb dX4_inRow_120 ?_
      refine lv_iload hx hb dX4_inRow_121 (lv_at hl 4 rfl) ?_
      refine lv_iload hx hb dX4_inRow_123 (lv_at hl 2 rfl) ?_
      refine lv_imul hx hb dX4_inRow_125 ?_
      refine lv_icmp_ne (tgt := 133) hx hb dX4_inRow_126 (by decide) (fun c_12 => ?_) (fun c_12 => ?_)
      · replace hF := it_n c_12 hF
        refine lv_iconst (v := 0) hx hb dX4_inRow_133 (by decide) ?_
        exact W.zret (v := 0) hx hb hr (by first | rfl | (rcases hF with h | h <;> rw [h] <;> rfl)) (fun t ht hW => ⟨0, rfl, ⟨so_e hF, (by first | exact Or.inl rfl | exact Or.inr rfl | assumption)⟩, ht⟩) (fun q h => absurd h List.not_mem_nil) dX4_inRow_134
      · replace hF := it_p c_12 hF
        refine lv_iconst (v := 1) hx hb dX4_inRow_129 (by decide) ?_
        refine lv_goto (tgt := 134) hx hb dX4_inRow_130 (by decide) ?_
        exact W.zret (v := 1) hx hb hr (by first | rfl | (rcases hF with h | h <;> rw [h] <;> rfl)) (fun t ht hW => ⟨1, rfl, ⟨so_e hF, (by first | exact Or.inl rfl | exact Or.inr rfl | assumption)⟩, ht⟩) (fun q h => absurd h List.not_mem_nil) dX4_inRow_134
def JX4_thin_62 (n : Nat) (k4 : Int32 → Int32 → Int32 → (Nat → Int32) → (Nat → Int32) → (Nat → Int32) → Option (Int32 × (Nat → Int32) × (Nat → Int32) × (Nat → Int32))) (a1 : Int32) (a2 : Int32) (msz0 : Int32) (mX : Nat → Int32) (mY : Nat → Int32) (mZ : Nat → Int32) : Option (Int32 × (Nat → Int32) × (Nat → Int32) × (Nat → Int32)) :=
  (k4 a1 (a2 + 1) msz0 mX mY mZ)
def JX4_thin_53 (n : Nat) (k4 : Int32 → Int32 → Int32 → (Nat → Int32) → (Nat → Int32) → (Nat → Int32) → Option (Int32 × (Nat → Int32) × (Nat → Int32) × (Nat → Int32))) (a1 : Int32) (a2 : Int32) (msz0 : Int32) (mX : Nat → Int32) (mY : Nat → Int32) (mZ : Nat → Int32) : Option (Int32 × (Nat → Int32) × (Nat → Int32) × (Nat → Int32)) :=
  (bd (fX4_copy n mX mY mZ a2 a1) (fun v_4 => (JX4_thin_62 n k4 (a1 + 1) a2 msz0 v_4.1 v_4.2.1 v_4.2.2)))
def JX4_thin_31 (n : Nat) (k4 : Int32 → Int32 → Int32 → (Nat → Int32) → (Nat → Int32) → (Nat → Int32) → Option (Int32 × (Nat → Int32) × (Nat → Int32) × (Nat → Int32))) (a1 : Int32) (a2 : Int32) (msz0 : Int32) (mX : Nat → Int32) (mY : Nat → Int32) (mZ : Nat → Int32) : Option (Int32 × (Nat → Int32) × (Nat → Int32) × (Nat → Int32)) :=
  (if a1 ≤ 1 then (JX4_thin_53 n k4 a1 a2 msz0 mX mY mZ) else (bd (fX4_inRow n mX mY mZ (a1 - 2) (a1 - 1) a2) (fun v_5 => (if v_5 = 0 then (JX4_thin_53 n k4 a1 a2 msz0 mX mY mZ) else (JX4_thin_53 n k4 (a1 + (-1)) a2 msz0 mX mY mZ)))))
def LX4_thin_4 (n : Nat)  : Nat → Int32 → Int32 → Int32 → (Nat → Int32) → (Nat → Int32) → (Nat → Int32) → Option (Int32 × (Nat → Int32) × (Nat → Int32) × (Nat → Int32))
  | 0, _, _, _, _, _, _ => none
  | k + 1, a1, a2, msz0, mX, mY, mZ =>
  (if msz0 ≤ a2 then (some (a1, mX, mY, mZ)) else (if a1 ≤ 0 then (JX4_thin_31 n (LX4_thin_4 n k) a1 a2 msz0 mX mY mZ) else (bd (fX4_compare n n mX mY mZ mX mY mZ (a1 - 1) a2) (fun v_8 => (if v_8 = 0 then (JX4_thin_62 n (LX4_thin_4 n k) a1 a2 msz0 mX mY mZ) else (JX4_thin_31 n (LX4_thin_4 n k) a1 a2 msz0 mX mY mZ))))))
def fX4_thin (n : Nat) (sz0 : Int32) (X : Nat → Int32) (Y : Nat → Int32) (Z : Nat → Int32) : Option (Int32 × (Nat → Int32) × (Nat → Int32) × (Nat → Int32)) :=
  (LX4_thin_4 n FU 0 0 sz0 X Y Z)
abbrev rX4_thin : Room := { frames := 1, cells := 0, slots := 0, locals := 29 }
set_option maxHeartbeats 40000000 in
set_option maxRecDepth 100000 in
theorem kX4_thin (l : Launch) (G : GT) (h0 ax ay az : Nat) (sz : Nat) (n : Nat) (sz0 : Int32) (X : Nat → Int32) (Y : Nat → Int32) (Z : Nat → Int32) (res : Int32 × (Nat → Int32) × (Nat → Int32) × (Nat → Int32)) (hF : fX4_thin n sz0 X Y Z = some res) : Met l yX4_thin wsX4_thin rX4_thin (va_Pc [.ref h0] (pW G sz (wPts G h0 ax ay az n sz0 X Y Z))) (va_Qv (fun (u : Int32 × (Nat → Int32) × (Nat → Int32) × (Nat → Int32)) => u = res) (fun u t => qW G (va_A (wPts G h0 ax ay az n sz0 X Y Z) sz) (wPts G h0 ax ay az n u.1 u.2.1 u.2.2.1 u.2.2.2) t) (va_A (wPts G h0 ax ay az n sz0 X Y Z) sz)) 0 0 (va_A (wPts G h0 ax ay az n sz0 X Y Z) sz) := by
  refine Met.ofW (cc := cX4_thin) (maxL := 3) (ret := none) (by decide) rfl ?_
  intro p e s m args below meth c s₁ B hml hv
  obtain ⟨rfl, hsz, hP, hK, hD0⟩ := hv
  have hx := B.exec
  have hb := B.bytes
  have hr := B.returns
  have hts := atoms_spec (ws := wsX4_thin) B.pre
  have hown : s.vm.findClass RX4 = some m.cls := findClass_of_methodNamed B.named
  have hlocks := B.notSynchronized
  subst hsz
  have hD := hD0.self (sz := s.heap.size)
  generalize hAe : va_A (wPts G h0 ax ay az n sz0 X Y Z) s.heap.size = A at hD ⊢
  have hA : ∀ q : Nat, s.heap.size ≤ q → A q := fun q h => by rw [← hAe]; exact Or.inr h
  have hS : va_S A s.heap s.heap [] := va_S.rf
  have hin4 : ∀ w ∈ u_ws RX4 TX4 4, w ∈ wsX4_thin := by decide +kernel
  have hfl27 := hts (.fieldLink RX4 27 "SwellBodies$Points" "size" "I") (by decide +kernel)
  have hl := lv_entry ([.ref h0]) (n := 3) (Nat.le_of_ble_eq_true rfl)
  rw [lg_entry_eq]
  generalize (lg_sl ([.ref h0]) ++ List.replicate (3 - (lg_sl ([.ref h0])).length) Slot.unset).toArray = ls at hl ⊢
  have hl : lv_has ls 3 [(0, .ref h0)] := hl
  have hJ62 : ∀ (k4 : Int32 → Int32 → Int32 → (Nat → Int32) → (Nat → Int32) → (Nat → Int32) → Option (Int32 × (Nat → Int32) × (Nat → Int32) × (Nat → Int32))), (∀ (a1 : Int32) (a2 : Int32) (msz0 : Int32) (mX : Nat → Int32) (mY : Nat → Int32) (mZ : Nat → Int32) (H : Heap) (locs : List Loc) (ls : Array Slot), k4 a1 a2 msz0 mX mY mZ = some res → va_P (gD G) vwCl (wPts G h0 ax ay az n msz0 mX mY mZ) H → va_D A (wPts G h0 ax ay az n msz0 mX mY mZ) → va_S A s.heap H locs → lv_has ls 3 [(0, .ref h0), (1, .int a1), (2, .int a2)] → W p l e (headSpec wsX4_thin rX4_thin).room s m ([.ref h0] : List Value).toArray below meth c H locs 0 0 (MQ below (va_Qv (fun (u : Int32 × (Nat → Int32) × (Nat → Int32) × (Nat → Int32)) => u = res) (fun u t => qW G A (wPts G h0 ax ay az n u.1 u.2.1 u.2.2.1 u.2.2.2) t) A) ([.ref h0] : List Value).toArray s 0 0 A) (F0 m 4 ls [])) → ∀ (a1 : Int32) (a2 : Int32) (msz0 : Int32) (mX : Nat → Int32) (mY : Nat → Int32) (mZ : Nat → Int32) (H : Heap) (locs : List Loc) (ls : Array Slot), JX4_thin_62 n k4 a1 a2 msz0 mX mY mZ = some res → va_P (gD G) vwCl (wPts G h0 ax ay az n msz0 mX mY mZ) H → va_D A (wPts G h0 ax ay az n msz0 mX mY mZ) → va_S A s.heap H locs → lv_has ls 3 [(0, .ref h0), (1, .int a1), (2, .int a2)] → W p l e (headSpec wsX4_thin rX4_thin).room s m ([.ref h0] : List Value).toArray below meth c H locs 0 0 (MQ below (va_Qv (fun (u : Int32 × (Nat → Int32) × (Nat → Int32) × (Nat → Int32)) => u = res) (fun u t => qW G A (wPts G h0 ax ay az n u.1 u.2.1 u.2.2.1 u.2.2.2) t) A) ([.ref h0] : List Value).toArray s 0 0 A) (F0 m 62 ls []) := by
    intro k4 hk4
    intro a1 a2 msz0 mX mY mZ H locs ls hF hP hD hS hl
    unfold JX4_thin_62 at hF
    refine lv_iinc (v := a2 + 1) (lv' := [(2, .int (a2 + 1)), (0, .ref h0), (1, .int a1)]) hx hb dX4_thin_62 hl (k := 2) rfl rfl (by decide) rfl (fun ls hl => ?_)
    refine lv_goto (tgt := 4) hx hb dX4_thin_65 (by decide) ?_
    exact hk4 a1 (a2 + 1) msz0 mX mY mZ _ _ _ hF hP hD hS (lv_sub hl [1, 2, 0] rfl)
  have hJ53 : ∀ (k4 : Int32 → Int32 → Int32 → (Nat → Int32) → (Nat → Int32) → (Nat → Int32) → Option (Int32 × (Nat → Int32) × (Nat → Int32) × (Nat → Int32))), (∀ (a1 : Int32) (a2 : Int32) (msz0 : Int32) (mX : Nat → Int32) (mY : Nat → Int32) (mZ : Nat → Int32) (H : Heap) (locs : List Loc) (ls : Array Slot), k4 a1 a2 msz0 mX mY mZ = some res → va_P (gD G) vwCl (wPts G h0 ax ay az n msz0 mX mY mZ) H → va_D A (wPts G h0 ax ay az n msz0 mX mY mZ) → va_S A s.heap H locs → lv_has ls 3 [(0, .ref h0), (1, .int a1), (2, .int a2)] → W p l e (headSpec wsX4_thin rX4_thin).room s m ([.ref h0] : List Value).toArray below meth c H locs 0 0 (MQ below (va_Qv (fun (u : Int32 × (Nat → Int32) × (Nat → Int32) × (Nat → Int32)) => u = res) (fun u t => qW G A (wPts G h0 ax ay az n u.1 u.2.1 u.2.2.1 u.2.2.2) t) A) ([.ref h0] : List Value).toArray s 0 0 A) (F0 m 4 ls [])) → ∀ (a1 : Int32) (a2 : Int32) (msz0 : Int32) (mX : Nat → Int32) (mY : Nat → Int32) (mZ : Nat → Int32) (H : Heap) (locs : List Loc) (ls : Array Slot), JX4_thin_53 n k4 a1 a2 msz0 mX mY mZ = some res → va_P (gD G) vwCl (wPts G h0 ax ay az n msz0 mX mY mZ) H → va_D A (wPts G h0 ax ay az n msz0 mX mY mZ) → va_S A s.heap H locs → lv_has ls 3 [(0, .ref h0), (1, .int a1), (2, .int a2)] → W p l e (headSpec wsX4_thin rX4_thin).room s m ([.ref h0] : List Value).toArray below meth c H locs 0 0 (MQ below (va_Qv (fun (u : Int32 × (Nat → Int32) × (Nat → Int32) × (Nat → Int32)) => u = res) (fun u t => qW G A (wPts G h0 ax ay az n u.1 u.2.1 u.2.2.1 u.2.2.2) t) A) ([.ref h0] : List Value).toArray s 0 0 A) (F0 m 53 ls []) := by
    intro k4 hk4
    intro a1 a2 msz0 mX mY mZ H locs ls hF hP hD hS hl
    unfold JX4_thin_53 at hF
    refine lv_aload_n hx hb dX4_thin_53 rfl (lv_at hl 0 rfl) ?_
    refine lv_iload_n hx hb dX4_thin_54 rfl (lv_at hl 2 rfl) ?_
    refine lv_iload_n hx hb dX4_thin_55 rfl (lv_at hl 1 rfl) ?_
    obtain ⟨v_4, hv_4, hF⟩ := bd_s hF
    refine rw_ve (wf := (fun (u : (Nat → Int32) × (Nat → Int32) × (Nat → Int32)) => (wPts G h0 ax ay az n msz0 u.1 u.2.1 u.2.2))) (wr := []) (va_runV (As := [.int a2, .int a1]) (rest := []) ⟨hx, hb, hml, hown, hts⟩ (kX4_copy l G h0 ax ay az H.size n msz0 mX mY mZ a2 a1 v_4 hv_4) (cwV 2 hts gX4_thin_X4_copy rfl rfl rfl (by decide +kernel) ⟨Nat.le_of_ble_eq_true rfl, Nat.le_of_ble_eq_true rfl⟩) (pvW (q0 := 0) 4 hK (hP.sub (ws' := (wPts G h0 ax ay az n msz0 mX mY mZ)) [0, 1, 2, 3] rfl) (hD.sub (ws' := (wPts G h0 ax ay az n msz0 mX mY mZ)) [0, 1, 2, 3] (by decide) rfl) rfl rfl) rfl rfl hl.1 rfl (lv_room (Nat.le_of_ble_eq_true rfl)) dX4_thin_56 ⟨Nat.le_of_ble_eq_true rfl, Nat.le_of_ble_eq_true rfl⟩) hP hD hS hA [0, 1, 2, 3] [] rfl rfl (by decide) (by decide) (fun H locs  hP hD hS => ?_)
    have hP : va_P (gD G) vwCl (wPts G h0 ax ay az n msz0 v_4.1 v_4.2.1 v_4.2.2) H := hP.sub [0, 1, 2, 3] rfl
    have hD : va_D A (wPts G h0 ax ay az n msz0 v_4.1 v_4.2.1 v_4.2.2) := hD.sub [0, 1, 2, 3] (by decide) rfl
    refine lv_iinc (v := a1 + 1) (lv' := [(1, .int (a1 + 1)), (0, .ref h0), (2, .int a2)]) hx hb dX4_thin_59 hl (k := 1) rfl rfl (by decide) rfl (fun ls hl => ?_)
    exact hJ62 _ hk4 (a1 + 1) a2 msz0 v_4.1 v_4.2.1 v_4.2.2 _ _ _ hF hP hD hS (lv_sub hl [1, 0, 2] rfl)
  have hJ31 : ∀ (k4 : Int32 → Int32 → Int32 → (Nat → Int32) → (Nat → Int32) → (Nat → Int32) → Option (Int32 × (Nat → Int32) × (Nat → Int32) × (Nat → Int32))), (∀ (a1 : Int32) (a2 : Int32) (msz0 : Int32) (mX : Nat → Int32) (mY : Nat → Int32) (mZ : Nat → Int32) (H : Heap) (locs : List Loc) (ls : Array Slot), k4 a1 a2 msz0 mX mY mZ = some res → va_P (gD G) vwCl (wPts G h0 ax ay az n msz0 mX mY mZ) H → va_D A (wPts G h0 ax ay az n msz0 mX mY mZ) → va_S A s.heap H locs → lv_has ls 3 [(0, .ref h0), (1, .int a1), (2, .int a2)] → W p l e (headSpec wsX4_thin rX4_thin).room s m ([.ref h0] : List Value).toArray below meth c H locs 0 0 (MQ below (va_Qv (fun (u : Int32 × (Nat → Int32) × (Nat → Int32) × (Nat → Int32)) => u = res) (fun u t => qW G A (wPts G h0 ax ay az n u.1 u.2.1 u.2.2.1 u.2.2.2) t) A) ([.ref h0] : List Value).toArray s 0 0 A) (F0 m 4 ls [])) → ∀ (a1 : Int32) (a2 : Int32) (msz0 : Int32) (mX : Nat → Int32) (mY : Nat → Int32) (mZ : Nat → Int32) (H : Heap) (locs : List Loc) (ls : Array Slot), JX4_thin_31 n k4 a1 a2 msz0 mX mY mZ = some res → va_P (gD G) vwCl (wPts G h0 ax ay az n msz0 mX mY mZ) H → va_D A (wPts G h0 ax ay az n msz0 mX mY mZ) → va_S A s.heap H locs → lv_has ls 3 [(0, .ref h0), (1, .int a1), (2, .int a2)] → W p l e (headSpec wsX4_thin rX4_thin).room s m ([.ref h0] : List Value).toArray below meth c H locs 0 0 (MQ below (va_Qv (fun (u : Int32 × (Nat → Int32) × (Nat → Int32) × (Nat → Int32)) => u = res) (fun u t => qW G A (wPts G h0 ax ay az n u.1 u.2.1 u.2.2.1 u.2.2.2) t) A) ([.ref h0] : List Value).toArray s 0 0 A) (F0 m 31 ls []) := by
    intro k4 hk4
    intro a1 a2 msz0 mX mY mZ H locs ls hF hP hD hS hl
    unfold JX4_thin_31 at hF
    refine lv_iload_n hx hb dX4_thin_31 rfl (lv_at hl 1 rfl) ?_
    refine lv_iconst (v := 1) hx hb dX4_thin_32 (by decide) ?_
    refine lv_icmp_le (tgt := 53) hx hb dX4_thin_33 (by decide) (fun c_3 => ?_) (fun c_3 => ?_)
    · replace hF := it_p c_3 hF
      exact hJ53 _ hk4 a1 a2 msz0 mX mY mZ _ _ _ hF hP hD hS (lv_sub hl [0, 1, 2] rfl)
    · replace hF := it_n c_3 hF
      refine lv_aload_n hx hb dX4_thin_36 rfl (lv_at hl 0 rfl) ?_
      refine lv_iload_n hx hb dX4_thin_37 rfl (lv_at hl 1 rfl) ?_
      refine lv_iconst (v := 2) hx hb dX4_thin_38 (by decide) ?_
      refine lv_isub hx hb dX4_thin_39 ?_
      refine lv_iload_n hx hb dX4_thin_40 rfl (lv_at hl 1 rfl) ?_
      refine lv_iconst (v := 1) hx hb dX4_thin_41 (by decide) ?_
      refine lv_isub hx hb dX4_thin_42 ?_
      refine lv_iload_n hx hb dX4_thin_43 rfl (lv_at hl 2 rfl) ?_
      obtain ⟨v_5, hv_5, hF⟩ := bd_s hF
      refine ro_ze (va_runV (As := [.int (a1 - 2), .int (a1 - 1), .int a2]) (rest := []) ⟨hx, hb, hml, hown, hts⟩ (kX4_inRow l G h0 ax ay az n msz0 mX mY mZ (a1 - 2) (a1 - 1) a2 v_5 hv_5) (cwV 3 hts gX4_thin_X4_inRow rfl rfl rfl (by decide +kernel) ⟨Nat.le_of_ble_eq_true rfl, Nat.le_of_ble_eq_true rfl⟩) (pvR (q0 := 0) 4 hK (hP.sub (ws' := (wPts G h0 ax ay az n msz0 mX mY mZ)) [0, 1, 2, 3] rfl) rfl rfl) rfl rfl hl.1 rfl (lv_room (Nat.le_of_ble_eq_true rfl)) dX4_thin_44 ⟨Nat.le_of_ble_eq_true rfl, Nat.le_of_ble_eq_true rfl⟩) (fun hb_6 => ?_)
      refine lv_if_eq (tgt := 53) hx hb dX4_thin_47 (by decide) (fun c_7 => ?_) (fun c_7 => ?_)
      · replace hF := it_p c_7 hF
        exact hJ53 _ hk4 a1 a2 msz0 mX mY mZ _ _ _ hF hP hD hS (lv_sub hl [0, 1, 2] rfl)
      · replace hF := it_n c_7 hF
        refine lv_iinc (v := a1 + (-1)) (lv' := [(1, .int (a1 + (-1))), (0, .ref h0), (2, .int a2)]) hx hb dX4_thin_50 hl (k := 1) rfl rfl (by decide) rfl (fun ls hl => ?_)
        exact hJ53 _ hk4 (a1 + (-1)) a2 msz0 mX mY mZ _ _ _ hF hP hD hS (lv_sub hl [1, 0, 2] rfl)
  have hL4 : ∀ (k : Nat), ∀ (a1 : Int32) (a2 : Int32) (msz0 : Int32) (mX : Nat → Int32) (mY : Nat → Int32) (mZ : Nat → Int32) (H : Heap) (locs : List Loc) (ls : Array Slot), LX4_thin_4 n k a1 a2 msz0 mX mY mZ = some res → va_P (gD G) vwCl (wPts G h0 ax ay az n msz0 mX mY mZ) H → va_D A (wPts G h0 ax ay az n msz0 mX mY mZ) → va_S A s.heap H locs → lv_has ls 3 [(0, .ref h0), (1, .int a1), (2, .int a2)] → W p l e (headSpec wsX4_thin rX4_thin).room s m ([.ref h0] : List Value).toArray below meth c H locs 0 0 (MQ below (va_Qv (fun (u : Int32 × (Nat → Int32) × (Nat → Int32) × (Nat → Int32)) => u = res) (fun u t => qW G A (wPts G h0 ax ay az n u.1 u.2.1 u.2.2.1 u.2.2.2) t) A) ([.ref h0] : List Value).toArray s 0 0 A) (F0 m 4 ls []) := by
    intro k
    induction k with
    | zero =>
      intro a1 a2 msz0 mX mY mZ H locs ls hF hP hD hS hl
      rw [LX4_thin_4] at hF
      cases hF
    | succ k ih =>
      intro a1 a2 msz0 mX mY mZ H locs ls hF hP hD hS hl
      rw [LX4_thin_4] at hF
      refine lv_iload_n hx hb dX4_thin_4 rfl (lv_at hl 2 rfl) ?_
      refine lv_aload_n hx hb dX4_thin_5 rfl (lv_at hl 0 rfl) ?_
      refine va_get (ci := 4) (v := .int msz0) (C := RX4) (T := TX4) (N := 4) hx hb hts hin4 hown hK hP 0 rfl rfl 3 (by decide) hfl27 (fun _ h9 => h9) rfl dX4_thin_6 ?_
      refine lv_icmp_ge (tgt := 68) hx hb dX4_thin_9 (by decide) (fun c_1 => ?_) (fun c_1 => ?_)
      · replace hF := it_p c_1 hF
        refine lv_aload_n hx hb dX4_thin_68 rfl (lv_at hl 0 rfl) ?_
        refine lv_iload_n hx hb dX4_thin_69 rfl (lv_at hl 1 rfl) ?_
        refine va_put (ci := 4) (v := .int a1) (ty := .int) (C := RX4) (T := TX4) (N := 4) hx hb hts hin4 tyX4 tyX4_ok nmX4 hown hK hP hD hS 0 rfl rfl 3 (by decide) hfl27 (fun _ h9 => h9) rfl (by decide +kernel) rfl rfl (Nat.le_of_ble_eq_true rfl) dX4_thin_70 (fun H locs hP hD hS => ?_)
        have hP : va_P (gD G) vwCl (wPts G h0 ax ay az n a1 mX mY mZ) H := hP
        have hD : va_D A (wPts G h0 ax ay az n a1 mX mY mZ) := hD
        exact W.vret hx hb hr (fun t ht hW => ⟨⟨(a1, mX, mY, mZ), rfl, so_e hF, qW_mk ht hP hK hW hD⟩, hS.F ht⟩) hS.2.2 dX4_thin_73
      · replace hF := it_n c_1 hF
        refine lv_iload_n hx hb dX4_thin_12 rfl (lv_at hl 1 rfl) ?_
        refine lv_if_le (tgt := 31) hx hb dX4_thin_13 (by decide) (fun c_2 => ?_) (fun c_2 => ?_)
        · replace hF := it_p c_2 hF
          exact hJ31 _ ih a1 a2 msz0 mX mY mZ _ _ _ hF hP hD hS (lv_sub hl [0, 1, 2] rfl)
        · replace hF := it_n c_2 hF
          refine lv_aload_n hx hb dX4_thin_16 rfl (lv_at hl 0 rfl) ?_
          refine lv_iload_n hx hb dX4_thin_17 rfl (lv_at hl 1 rfl) ?_
          refine lv_iconst (v := 1) hx hb dX4_thin_18 (by decide) ?_
          refine lv_isub hx hb dX4_thin_19 ?_
          refine lv_aload_n hx hb dX4_thin_20 rfl (lv_at hl 0 rfl) ?_
          refine lv_iload_n hx hb dX4_thin_21 rfl (lv_at hl 2 rfl) ?_
          obtain ⟨v_8, hv_8, hF⟩ := bd_s hF
          refine ro_ie (va_runV (As := [.int (a1 - 1), .ref h0, .int a2]) (rest := []) ⟨hx, hb, hml, hown, hts⟩ (kX4_compare l G h0 ax ay az h0 ax ay az n n msz0 mX mY mZ msz0 mX mY mZ (a1 - 1) a2 v_8 hv_8) (cwV 3 hts gX4_thin_X4_compare rfl rfl rfl (by decide +kernel) ⟨Nat.le_of_ble_eq_true rfl, Nat.le_of_ble_eq_true rfl⟩) (pvR (q0 := 0) 4 hK (hP.sub (ws' := (wPts2 G h0 ax ay az h0 ax ay az n n msz0 mX mY mZ msz0 mX mY mZ)) [0, 1, 2, 3, 0, 1, 2, 3] rfl) rfl rfl) rfl rfl hl.1 rfl (lv_room (Nat.le_of_ble_eq_true rfl)) dX4_thin_22 ⟨Nat.le_of_ble_eq_true rfl, Nat.le_of_ble_eq_true rfl⟩) ?_
          refine lv_if_ne (tgt := 31) hx hb dX4_thin_25 (by decide) (fun c_9 => ?_) (fun c_9 => ?_)
          · replace hF := it_n c_9 hF
            exact hJ31 _ ih a1 a2 msz0 mX mY mZ _ _ _ hF hP hD hS (lv_sub hl [0, 1, 2] rfl)
          · replace hF := it_p c_9 hF
            refine lv_goto (tgt := 62) hx hb dX4_thin_28 (by decide) ?_
            exact hJ62 _ ih a1 a2 msz0 mX mY mZ _ _ _ hF hP hD hS (lv_sub hl [0, 1, 2] rfl)
  unfold fX4_thin at hF
  refine lv_iconst (v := 0) hx hb dX4_thin_0 (by decide) ?_
  refine lv_istore_n (lv' := [(1, .int 0), (0, .ref h0)]) hx hb dX4_thin_1 rfl hl (by decide) rfl (fun ls hl => ?_)
  refine lv_iconst (v := 0) hx hb dX4_thin_2 (by decide) ?_
  refine lv_istore_n (lv' := [(2, .int 0), (1, .int 0), (0, .ref h0)]) hx hb dX4_thin_3 rfl hl (by decide) rfl (fun ls hl => ?_)
  exact hL4 FU 0 0 sz0 X Y Z _ _ _ hF hP hD hS (lv_sub hl [2, 1, 0] rfl)
def LX4_isMoved_22 (n : Nat) (n2 : Nat) (sz0 : Int32) (X : Nat → Int32) (Y : Nat → Int32) (Z : Nat → Int32) (sz1 : Int32) (U : Nat → Int32) (V : Nat → Int32) (T : Nat → Int32)  : Nat → Int32 → Option (Int32)
  | 0, _ => none
  | k + 1, a2 =>
  (if sz0 ≤ a2 then (some 1) else (gd_in a2 n (gd_in a2 n2 (gd_in 0 n (gd_in 0 n2 (if (X a2.toNatClampNeg) - (U a2.toNatClampNeg) = (X (0 : Int32).toNatClampNeg) - (U (0 : Int32).toNatClampNeg) then (if (Y a2.toNatClampNeg) - (V a2.toNatClampNeg) = (Y (0 : Int32).toNatClampNeg) - (V (0 : Int32).toNatClampNeg) then (if (Z a2.toNatClampNeg) - (T a2.toNatClampNeg) = (Z (0 : Int32).toNatClampNeg) - (T (0 : Int32).toNatClampNeg) then (LX4_isMoved_22 n n2 sz0 X Y Z sz1 U V T k (a2 + 1)) else (some 0)) else (some 0)) else (some 0)))))))
def fX4_isMoved (n : Nat) (n2 : Nat) (sz0 : Int32) (X : Nat → Int32) (Y : Nat → Int32) (Z : Nat → Int32) (sz1 : Int32) (U : Nat → Int32) (V : Nat → Int32) (T : Nat → Int32) : Option (Int32) :=
  (if sz0 = sz1 then (if sz0 = 0 then (some 0) else (LX4_isMoved_22 n n2 sz0 X Y Z sz1 U V T FU 1)) else (some 0))
abbrev rX4_isMoved : Room := { frames := 0, cells := 0, slots := 0, locals := 0 }
set_option maxHeartbeats 40000000 in
set_option maxRecDepth 100000 in
theorem kX4_isMoved (l : Launch) (G : GT) (h0 ax ay az g0 bX bY bZ : Nat) (n n2 : Nat) (sz0 : Int32) (X : Nat → Int32) (Y : Nat → Int32) (Z : Nat → Int32) (sz1 : Int32) (U : Nat → Int32) (V : Nat → Int32) (T : Nat → Int32) (res : Int32) (hF : fX4_isMoved n n2 sz0 X Y Z sz1 U V T = some res) : Met l yX4_isMoved wsX4_isMoved rX4_isMoved (va_Pc [.ref h0, .ref g0] (pR G (wPts2 G h0 ax ay az g0 bX bY bZ n n2 sz0 X Y Z sz1 U V T))) (vp_Si (fun r => r = res ∧ (r = 0 ∨ r = 1))) 0 0 (fun _ => False) := by
  refine Met.ofW (cc := cX4_isMoved) (maxL := 3) (ret := (some .boolean)) (by decide) rfl ?_
  intro p e s m args below meth c s₁ B hml hv
  obtain ⟨rfl, hP, hK⟩ := hv
  have hx := B.exec
  have hb := B.bytes
  have hr := B.returns
  have hts := atoms_spec (ws := wsX4_isMoved) B.pre
  have hown : s.vm.findClass RX4 = some m.cls := findClass_of_methodNamed B.named
  have hlocks := B.notSynchronized
  have hin4 : ∀ w ∈ u_ws RX4 TX4 4, w ∈ wsX4_isMoved := by decide +kernel
  have hfl27 := hts (.fieldLink RX4 27 "SwellBodies$Points" "size" "I") (by decide +kernel)
  have hfl15 := hts (.fieldLink RX4 15 "SwellBodies$Points" "x" "[I") (by decide +kernel)
  have hfl21 := hts (.fieldLink RX4 21 "SwellBodies$Points" "y" "[I") (by decide +kernel)
  have hfl24 := hts (.fieldLink RX4 24 "SwellBodies$Points" "z" "[I") (by decide +kernel)
  have hl := lv_entry ([.ref h0, .ref g0]) (n := 3) (Nat.le_of_ble_eq_true rfl)
  rw [lg_entry_eq]
  generalize (lg_sl ([.ref h0, .ref g0]) ++ List.replicate (3 - (lg_sl ([.ref h0, .ref g0])).length) Slot.unset).toArray = ls at hl ⊢
  have hl : lv_has ls 3 [(0, .ref h0), (1, .ref g0)] := hl
  have hL22 : ∀ (k : Nat), ∀ (a2 : Int32) (ls : Array Slot), LX4_isMoved_22 n n2 sz0 X Y Z sz1 U V T k a2 = some res → lv_has ls 3 [(0, .ref h0), (1, .ref g0), (2, .int a2)] → W p l e (headSpec wsX4_isMoved rX4_isMoved).room s m ([.ref h0, .ref g0] : List Value).toArray below meth c s.heap [] 0 0 (MQ below (vp_Si (fun r => r = res ∧ (r = 0 ∨ r = 1))) ([.ref h0, .ref g0] : List Value).toArray s 0 0 (fun _ => False)) (F0 m 22 ls []) := by
    intro k
    induction k with
    | zero =>
      intro a2 ls hF hl
      rw [LX4_isMoved_22] at hF
      cases hF
    | succ k ih =>
      intro a2 ls hF hl
      rw [LX4_isMoved_22] at hF
      refine lv_iload_n hx hb dX4_isMoved_22 rfl (lv_at hl 2 rfl) ?_
      refine lv_aload_n hx hb dX4_isMoved_23 rfl (lv_at hl 0 rfl) ?_
      refine va_get (ci := 4) (v := .int sz0) (C := RX4) (T := TX4) (N := 4) hx hb hts hin4 hown hK hP 0 rfl rfl 3 (by decide) hfl27 (fun _ h9 => h9) rfl dX4_isMoved_24 ?_
      refine lv_icmp_ge (tgt := 125) hx hb dX4_isMoved_27 (by decide) (fun c_3 => ?_) (fun c_3 => ?_)
      · replace hF := it_p c_3 hF
        refine lv_iconst (v := 1) hx hb dX4_isMoved_125 (by decide) ?_
        exact W.zret (v := 1) hx hb hr (by first | rfl | (rcases hF with h | h <;> rw [h] <;> rfl)) (fun t ht hW => ⟨1, rfl, ⟨so_e hF, (by first | exact Or.inl rfl | exact Or.inr rfl | assumption)⟩, ht⟩) (fun q h => absurd h List.not_mem_nil) dX4_isMoved_126
      · replace hF := it_n c_3 hF
        refine lv_aload_n hx hb dX4_isMoved_30 rfl (lv_at hl 0 rfl) ?_
        refine va_get (ci := 4) (v := .ref ax) (C := RX4) (T := TX4) (N := 4) hx hb hts hin4 hown hK hP 0 rfl rfl 0 (by decide) hfl15 (fun _ h9 => h9) rfl dX4_isMoved_31 ?_
        refine lv_iload_n hx hb dX4_isMoved_34 rfl (lv_at hl 2 rfl) ?_
        obtain ⟨hi_4, hF⟩ := gd_in_s hF
        refine va_iald hx hb hK hP 1 0 rfl rfl hi_4 dX4_isMoved_35 ?_
        refine lv_aload_n hx hb dX4_isMoved_36 rfl (lv_at hl 1 rfl) ?_
        refine va_get (ci := 4) (v := .ref bX) (C := RX4) (T := TX4) (N := 4) hx hb hts hin4 hown hK hP 4 rfl rfl 0 (by decide) hfl15 (fun _ h9 => h9) rfl dX4_isMoved_37 ?_
        refine lv_iload_n hx hb dX4_isMoved_40 rfl (lv_at hl 2 rfl) ?_
        obtain ⟨hi_5, hF⟩ := gd_in_s hF
        refine va_iald hx hb hK hP 5 0 rfl rfl hi_5 dX4_isMoved_41 ?_
        refine lv_isub hx hb dX4_isMoved_42 ?_
        refine lv_aload_n hx hb dX4_isMoved_43 rfl (lv_at hl 0 rfl) ?_
        refine va_get (ci := 4) (v := .ref ax) (C := RX4) (T := TX4) (N := 4) hx hb hts hin4 hown hK hP 0 rfl rfl 0 (by decide) hfl15 (fun _ h9 => h9) rfl dX4_isMoved_44 ?_
        refine lv_iconst (v := 0) hx hb dX4_isMoved_47 (by decide) ?_
        obtain ⟨hi_6, hF⟩ := gd_in_s hF
        refine va_iald hx hb hK hP 1 0 rfl rfl hi_6 dX4_isMoved_48 ?_
        refine lv_aload_n hx hb dX4_isMoved_49 rfl (lv_at hl 1 rfl) ?_
        refine va_get (ci := 4) (v := .ref bX) (C := RX4) (T := TX4) (N := 4) hx hb hts hin4 hown hK hP 4 rfl rfl 0 (by decide) hfl15 (fun _ h9 => h9) rfl dX4_isMoved_50 ?_
        refine lv_iconst (v := 0) hx hb dX4_isMoved_53 (by decide) ?_
        obtain ⟨hi_7, hF⟩ := gd_in_s hF
        refine va_iald hx hb hK hP 5 0 rfl rfl hi_7 dX4_isMoved_54 ?_
        refine lv_isub hx hb dX4_isMoved_55 ?_
        refine lv_icmp_ne (tgt := 117) hx hb dX4_isMoved_56 (by decide) (fun c_8 => ?_) (fun c_8 => ?_)
        · replace hF := it_n c_8 hF
          refine lv_iconst (v := 0) hx hb dX4_isMoved_117 (by decide) ?_
          exact W.zret (v := 0) hx hb hr (by first | rfl | (rcases hF with h | h <;> rw [h] <;> rfl)) (fun t ht hW => ⟨0, rfl, ⟨so_e hF, (by first | exact Or.inl rfl | exact Or.inr rfl | assumption)⟩, ht⟩) (fun q h => absurd h List.not_mem_nil) dX4_isMoved_118
        · replace hF := it_p c_8 hF
          refine lv_aload_n hx hb dX4_isMoved_59 rfl (lv_at hl 0 rfl) ?_
          refine va_get (ci := 4) (v := .ref ay) (C := RX4) (T := TX4) (N := 4) hx hb hts hin4 hown hK hP 0 rfl rfl 1 (by decide) hfl21 (fun _ h9 => h9) rfl dX4_isMoved_60 ?_
          refine lv_iload_n hx hb dX4_isMoved_63 rfl (lv_at hl 2 rfl) ?_
          refine va_iald hx hb hK hP 2 0 rfl rfl hi_4 dX4_isMoved_64 ?_
          refine lv_aload_n hx hb dX4_isMoved_65 rfl (lv_at hl 1 rfl) ?_
          refine va_get (ci := 4) (v := .ref bY) (C := RX4) (T := TX4) (N := 4) hx hb hts hin4 hown hK hP 4 rfl rfl 1 (by decide) hfl21 (fun _ h9 => h9) rfl dX4_isMoved_66 ?_
          refine lv_iload_n hx hb dX4_isMoved_69 rfl (lv_at hl 2 rfl) ?_
          refine va_iald hx hb hK hP 6 0 rfl rfl hi_5 dX4_isMoved_70 ?_
          refine lv_isub hx hb dX4_isMoved_71 ?_
          refine lv_aload_n hx hb dX4_isMoved_72 rfl (lv_at hl 0 rfl) ?_
          refine va_get (ci := 4) (v := .ref ay) (C := RX4) (T := TX4) (N := 4) hx hb hts hin4 hown hK hP 0 rfl rfl 1 (by decide) hfl21 (fun _ h9 => h9) rfl dX4_isMoved_73 ?_
          refine lv_iconst (v := 0) hx hb dX4_isMoved_76 (by decide) ?_
          refine va_iald hx hb hK hP 2 0 rfl rfl hi_6 dX4_isMoved_77 ?_
          refine lv_aload_n hx hb dX4_isMoved_78 rfl (lv_at hl 1 rfl) ?_
          refine va_get (ci := 4) (v := .ref bY) (C := RX4) (T := TX4) (N := 4) hx hb hts hin4 hown hK hP 4 rfl rfl 1 (by decide) hfl21 (fun _ h9 => h9) rfl dX4_isMoved_79 ?_
          refine lv_iconst (v := 0) hx hb dX4_isMoved_82 (by decide) ?_
          refine va_iald hx hb hK hP 6 0 rfl rfl hi_7 dX4_isMoved_83 ?_
          refine lv_isub hx hb dX4_isMoved_84 ?_
          refine lv_icmp_ne (tgt := 117) hx hb dX4_isMoved_85 (by decide) (fun c_9 => ?_) (fun c_9 => ?_)
          · replace hF := it_n c_9 hF
            refine lv_iconst (v := 0) hx hb dX4_isMoved_117 (by decide) ?_
            exact W.zret (v := 0) hx hb hr (by first | rfl | (rcases hF with h | h <;> rw [h] <;> rfl)) (fun t ht hW => ⟨0, rfl, ⟨so_e hF, (by first | exact Or.inl rfl | exact Or.inr rfl | assumption)⟩, ht⟩) (fun q h => absurd h List.not_mem_nil) dX4_isMoved_118
          · replace hF := it_p c_9 hF
            refine lv_aload_n hx hb dX4_isMoved_88 rfl (lv_at hl 0 rfl) ?_
            refine va_get (ci := 4) (v := .ref az) (C := RX4) (T := TX4) (N := 4) hx hb hts hin4 hown hK hP 0 rfl rfl 2 (by decide) hfl24 (fun _ h9 => h9) rfl dX4_isMoved_89 ?_
            refine lv_iload_n hx hb dX4_isMoved_92 rfl (lv_at hl 2 rfl) ?_
            refine va_iald hx hb hK hP 3 0 rfl rfl hi_4 dX4_isMoved_93 ?_
            refine lv_aload_n hx hb dX4_isMoved_94 rfl (lv_at hl 1 rfl) ?_
            refine va_get (ci := 4) (v := .ref bZ) (C := RX4) (T := TX4) (N := 4) hx hb hts hin4 hown hK hP 4 rfl rfl 2 (by decide) hfl24 (fun _ h9 => h9) rfl dX4_isMoved_95 ?_
            refine lv_iload_n hx hb dX4_isMoved_98 rfl (lv_at hl 2 rfl) ?_
            refine va_iald hx hb hK hP 7 0 rfl rfl hi_5 dX4_isMoved_99 ?_
            refine lv_isub hx hb dX4_isMoved_100 ?_
            refine lv_aload_n hx hb dX4_isMoved_101 rfl (lv_at hl 0 rfl) ?_
            refine va_get (ci := 4) (v := .ref az) (C := RX4) (T := TX4) (N := 4) hx hb hts hin4 hown hK hP 0 rfl rfl 2 (by decide) hfl24 (fun _ h9 => h9) rfl dX4_isMoved_102 ?_
            refine lv_iconst (v := 0) hx hb dX4_isMoved_105 (by decide) ?_
            refine va_iald hx hb hK hP 3 0 rfl rfl hi_6 dX4_isMoved_106 ?_
            refine lv_aload_n hx hb dX4_isMoved_107 rfl (lv_at hl 1 rfl) ?_
            refine va_get (ci := 4) (v := .ref bZ) (C := RX4) (T := TX4) (N := 4) hx hb hts hin4 hown hK hP 4 rfl rfl 2 (by decide) hfl24 (fun _ h9 => h9) rfl dX4_isMoved_108 ?_
            refine lv_iconst (v := 0) hx hb dX4_isMoved_111 (by decide) ?_
            refine va_iald hx hb hK hP 7 0 rfl rfl hi_7 dX4_isMoved_112 ?_
            refine lv_isub hx hb dX4_isMoved_113 ?_
            refine lv_icmp_eq (tgt := 119) hx hb dX4_isMoved_114 (by decide) (fun c_10 => ?_) (fun c_10 => ?_)
            · replace hF := it_p c_10 hF
              refine lv_iinc (v := a2 + 1) (lv' := [(2, .int (a2 + 1)), (0, .ref h0), (1, .ref g0)]) hx hb dX4_isMoved_119 hl (k := 2) rfl rfl (by decide) rfl (fun ls hl => ?_)
              refine lv_goto (tgt := 22) hx hb dX4_isMoved_122 (by decide) ?_
              exact ih (a2 + 1) _ hF (lv_sub hl [1, 2, 0] rfl)
            · replace hF := it_n c_10 hF
              refine lv_iconst (v := 0) hx hb dX4_isMoved_117 (by decide) ?_
              exact W.zret (v := 0) hx hb hr (by first | rfl | (rcases hF with h | h <;> rw [h] <;> rfl)) (fun t ht hW => ⟨0, rfl, ⟨so_e hF, (by first | exact Or.inl rfl | exact Or.inr rfl | assumption)⟩, ht⟩) (fun q h => absurd h List.not_mem_nil) dX4_isMoved_118
  unfold fX4_isMoved at hF
  refine lv_aload_n hx hb dX4_isMoved_0 rfl (lv_at hl 0 rfl) ?_
  refine va_get (ci := 4) (v := .int sz0) (C := RX4) (T := TX4) (N := 4) hx hb hts hin4 hown hK hP 0 rfl rfl 3 (by decide) hfl27 (fun _ h9 => h9) rfl dX4_isMoved_1 ?_
  refine lv_aload_n hx hb dX4_isMoved_4 rfl (lv_at hl 1 rfl) ?_
  refine va_get (ci := 4) (v := .int sz1) (C := RX4) (T := TX4) (N := 4) hx hb hts hin4 hown hK hP 4 rfl rfl 3 (by decide) hfl27 (fun _ h9 => h9) rfl dX4_isMoved_5 ?_
  refine lv_icmp_ne (tgt := 18) hx hb dX4_isMoved_8 (by decide) (fun c_1 => ?_) (fun c_1 => ?_)
  · replace hF := it_n c_1 hF
    refine lv_iconst (v := 0) hx hb dX4_isMoved_18 (by decide) ?_
    exact W.zret (v := 0) hx hb hr (by first | rfl | (rcases hF with h | h <;> rw [h] <;> rfl)) (fun t ht hW => ⟨0, rfl, ⟨so_e hF, (by first | exact Or.inl rfl | exact Or.inr rfl | assumption)⟩, ht⟩) (fun q h => absurd h List.not_mem_nil) dX4_isMoved_19
  · replace hF := it_p c_1 hF
    refine lv_aload_n hx hb dX4_isMoved_11 rfl (lv_at hl 0 rfl) ?_
    refine va_get (ci := 4) (v := .int sz0) (C := RX4) (T := TX4) (N := 4) hx hb hts hin4 hown hK hP 0 rfl rfl 3 (by decide) hfl27 (fun _ h9 => h9) rfl dX4_isMoved_12 ?_
    refine lv_if_ne (tgt := 20) hx hb dX4_isMoved_15 (by decide) (fun c_2 => ?_) (fun c_2 => ?_)
    · replace hF := it_n c_2 hF
      refine lv_iconst (v := 1) hx hb dX4_isMoved_20 (by decide) ?_
      refine lv_istore_n (lv' := [(2, .int 1), (0, .ref h0), (1, .ref g0)]) hx hb dX4_isMoved_21 rfl hl (by decide) rfl (fun ls hl => ?_)
      exact hL22 FU 1 _ hF (lv_sub hl [1, 2, 0] rfl)
    · replace hF := it_p c_2 hF
      refine lv_iconst (v := 0) hx hb dX4_isMoved_18 (by decide) ?_
      exact W.zret (v := 0) hx hb hr (by first | rfl | (rcases hF with h | h <;> rw [h] <;> rfl)) (fun t ht hW => ⟨0, rfl, ⟨so_e hF, (by first | exact Or.inl rfl | exact Or.inr rfl | assumption)⟩, ht⟩) (fun q h => absurd h List.not_mem_nil) dX4_isMoved_19
