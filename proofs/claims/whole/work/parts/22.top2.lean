abbrev wXF (G : GT) (h0 qb f0 c0 cx cy cz s0 sa sb sc se b0 ba bb bc be al ag d0 qs m0 aw : Nat) (nc ns nb : Nat) (bc_ : Int32) (RB : Nat → Option Nat) (fl : Int32) (mo : Int32) (og : Option Nat) (cs : Int32) (CX : Nat → Int32) (CY : Nat → Int32) (CZ : Nat → Int32) (ss : Int32) (SA : Nat → Int32) (SB : Nat → Int32) (SC : Nat → Int32) (SE : Nat → Int32) (bs : Int32) (BA : Nat → Int32) (BB : Nat → Int32) (BC : Nat → Int32) (BD : Nat → Int32) (LL : Nat → Int32) (GG : Nat → Int32) : va_W := [(h0, .inr (8, [.ref d0, .ref qs, .ref qb, .ref m0, .int bc_])), (qb, .inl (gB G, 8, .inr (.inr (.inr (.inr RB))))), (f0, .inr (0, [.int fl, .int mo, .ref c0, .ref s0, .ref b0, .ref al, .ref ag, .ref aw, va_rf og])), (c0, .inr (4, [.ref cx, .ref cy, .ref cz, .int cs])), (cx, .inl (gI G, nc, .inl CX)), (cy, .inl (gI G, nc, .inl CY)), (cz, .inl (gI G, nc, .inl CZ)), (s0, .inr (1, [.ref sa, .ref sb, .ref sc, .ref se, .int ss])), (sa, .inl (gI G, ns, .inl SA)), (sb, .inl (gI G, ns, .inl SB)), (sc, .inl (gI G, ns, .inl SC)), (se, .inl (gI G, ns, .inl SE)), (b0, .inr (1, [.ref ba, .ref bb, .ref bc, .ref be, .int bs])), (ba, .inl (gI G, nb, .inl BA)), (bb, .inl (gI G, nb, .inl BB)), (bc, .inl (gI G, nb, .inl BC)), (be, .inl (gI G, nb, .inl BD)), (al, .inl (gI G, 3, .inl LL)), (ag, .inl (gI G, 3, .inl GG))]
abbrev wXB2 (G : GT) (h0 qb d0 qs m0 f0 f1 : Nat) (bc_ : Int32) (RB : Nat → Option Nat) : va_W := [(h0, .inr (8, [.ref d0, .ref qs, .ref qb, .ref m0, .int bc_])), (qb, .inl (gB G, 8, .inr (.inr (.inr (.inr RB)))))]
abbrev wXWF (G : GT) (h0 qb f0 c0 cx cy cz f1 s01 sa1 sb1 sc1 se1 b01 ba1 bb1 bc1 be1 d0 qs m0 s0 b0 al ag aw c01 al1 ag1 aw1 : Nat) (nc ns1 nb1 : Nat) (bc_ : Int32) (RB : Nat → Option Nat) (fl : Int32) (mo : Int32) (og : Option Nat) (cs : Int32) (CX : Nat → Int32) (CY : Nat → Int32) (CZ : Nat → Int32) (fl1 : Int32) (mo1 : Int32) (og1 : Option Nat) (ss1 : Int32) (SA1 : Nat → Int32) (SB1 : Nat → Int32) (SC1 : Nat → Int32) (SE1 : Nat → Int32) (bs1 : Int32) (BA1 : Nat → Int32) (BB1 : Nat → Int32) (BC1 : Nat → Int32) (BD1 : Nat → Int32) : va_W := [(h0, .inr (8, [.ref d0, .ref qs, .ref qb, .ref m0, .int bc_])), (qb, .inl (gB G, 8, .inr (.inr (.inr (.inr RB))))), (f0, .inr (0, [.int fl, .int mo, .ref c0, .ref s0, .ref b0, .ref al, .ref ag, .ref aw, va_rf og])), (c0, .inr (4, [.ref cx, .ref cy, .ref cz, .int cs])), (cx, .inl (gI G, nc, .inl CX)), (cy, .inl (gI G, nc, .inl CY)), (cz, .inl (gI G, nc, .inl CZ)), (f1, .inr (0, [.int fl1, .int mo1, .ref c01, .ref s01, .ref b01, .ref al1, .ref ag1, .ref aw1, va_rf og1])), (s01, .inr (1, [.ref sa1, .ref sb1, .ref sc1, .ref se1, .int ss1])), (sa1, .inl (gI G, ns1, .inl SA1)), (sb1, .inl (gI G, ns1, .inl SB1)), (sc1, .inl (gI G, ns1, .inl SC1)), (se1, .inl (gI G, ns1, .inl SE1)), (b01, .inr (1, [.ref ba1, .ref bb1, .ref bc1, .ref be1, .int bs1])), (ba1, .inl (gI G, nb1, .inl BA1)), (bb1, .inl (gI G, nb1, .inl BB1)), (bc1, .inl (gI G, nb1, .inl BC1)), (be1, .inl (gI G, nb1, .inl BD1))]
abbrev wXSF (G : GT) (h0 qb f0 c0 cx cy cz f1 c01 cx1 cy1 cz1 d0 qs m0 s0 b0 al ag aw s01 b01 al1 ag1 aw1 : Nat) (nc nc1 : Nat) (bc_ : Int32) (RB : Nat → Option Nat) (fl : Int32) (mo : Int32) (og : Option Nat) (cs : Int32) (CX : Nat → Int32) (CY : Nat → Int32) (CZ : Nat → Int32) (fl1 : Int32) (mo1 : Int32) (og1 : Option Nat) (cs1 : Int32) (CX1 : Nat → Int32) (CY1 : Nat → Int32) (CZ1 : Nat → Int32) : va_W := [(h0, .inr (8, [.ref d0, .ref qs, .ref qb, .ref m0, .int bc_])), (qb, .inl (gB G, 8, .inr (.inr (.inr (.inr RB))))), (f0, .inr (0, [.int fl, .int mo, .ref c0, .ref s0, .ref b0, .ref al, .ref ag, .ref aw, va_rf og])), (c0, .inr (4, [.ref cx, .ref cy, .ref cz, .int cs])), (cx, .inl (gI G, nc, .inl CX)), (cy, .inl (gI G, nc, .inl CY)), (cz, .inl (gI G, nc, .inl CZ)), (f1, .inr (0, [.int fl1, .int mo1, .ref c01, .ref s01, .ref b01, .ref al1, .ref ag1, .ref aw1, va_rf og1])), (c01, .inr (4, [.ref cx1, .ref cy1, .ref cz1, .int cs1])), (cx1, .inl (gI G, nc1, .inl CX1)), (cy1, .inl (gI G, nc1, .inl CY1)), (cz1, .inl (gI G, nc1, .inl CZ1))]
def fX8_about_N (bc_ : Int32) (p1 : Int32) (p2 : Int32) : Option (Int32) :=
  (bd (fX8_find_N bc_ p1) (fun v_1 => (some (-1))))
abbrev rX8_about_N : Room := { frames := 1, cells := 0, slots := 0, locals := 21 }
set_option maxHeartbeats 40000000 in
set_option maxRecDepth 100000 in
theorem kX8_about_N (l : Launch) (G : GT) (h0 qb d0 qs m0 : Nat) (bc_ : Int32) (RB : Nat → Option Nat) (p1 : Int32) (p2 : Int32) (res : Int32) (hF : fX8_about_N bc_ p1 p2 = some res) : Met l yX8_about wsX8_about rX8_about_N (va_Pc [.ref h0, .int p1, .int p2] (pR G (wXBn G h0 qb d0 qs m0 bc_ RB))) (vp_Si (fun r => r = res)) 0 0 (fun _ => False) := by
  refine Met.ofW (cc := cX8_about) (maxL := 4) (ret := (some .int)) (by decide) rfl ?_
  intro p e s m args below meth c s₁ B hml hv
  obtain ⟨rfl, hP, hK⟩ := hv
  have hx := B.exec
  have hb := B.bytes
  have hr := B.returns
  have hts := atoms_spec (ws := wsX8_about) B.pre
  have hown : s.vm.findClass RX8 = some m.cls := findClass_of_methodNamed B.named
  have hlocks := B.notSynchronized
  have hl := lv_entry ([.ref h0, .int p1, .int p2]) (n := 4) (Nat.le_of_ble_eq_true rfl)
  rw [lg_entry_eq]
  generalize (lg_sl ([.ref h0, .int p1, .int p2]) ++ List.replicate (4 - (lg_sl ([.ref h0, .int p1, .int p2])).length) Slot.unset).toArray = ls at hl ⊢
  have hl : lv_has ls 4 [(0, .ref h0), (1, .int p1), (2, .int p2)] := hl
  unfold fX8_about_N at hF
  refine lv_aload_n hx hb dX8_about_0 rfl (lv_at hl 0 rfl) ?_
  refine lv_iload_n hx hb dX8_about_1 rfl (lv_at hl 1 rfl) ?_
  obtain ⟨v_1, hv_1, hF⟩ := bd_s hF
  refine ro_qe (va_runV (As := [.int p1]) (rest := []) ⟨hx, hb, hml, hown, hts⟩ (kX8_find_N l G h0 qb d0 qs m0 bc_ RB p1 v_1 hv_1) (cwV 1 hts gX8_about_X8_find rfl rfl rfl (by decide +kernel) ⟨Nat.le_of_ble_eq_true rfl, Nat.le_of_ble_eq_true rfl⟩) (pvR (q0 := 0) 8 hK (hP.sub (ws' := (wXBn G h0 qb d0 qs m0 bc_ RB)) [0, 1] rfl) rfl rfl) rfl rfl hl.1 rfl (lv_room (Nat.le_of_ble_eq_true rfl)) dX8_about_2 ⟨Nat.le_of_ble_eq_true rfl, Nat.le_of_ble_eq_true rfl⟩) ?_
  refine lv_astore_nN (lv' := [(3, .null), (0, .ref h0), (1, .int p1), (2, .int p2)]) hx hb dX8_about_5 rfl hl (by decide) rfl (fun ls hl => ?_)
  refine lv_aload_nN hx hb dX8_about_6 rfl (lv_at hl 0 rfl) ?_
  refine lv_ifnonnullN hx hb dX8_about_7 ?_
  refine lv_iconst (v := (-1)) hx hb dX8_about_10 (by decide) ?_
  exact W.iret (v := (-1)) hx hb hr  (fun t ht hW => ⟨(-1), rfl, (so_e hF), ht⟩) (fun q h => absurd h List.not_mem_nil) dX8_about_11
def fX8_about_F (nc : Nat) (bc_ : Int32) (fl : Int32) (mo : Int32) (cs : Int32) (CX : Nat → Int32) (CY : Nat → Int32) (CZ : Nat → Int32) (ss : Int32) (LL : Nat → Int32) (GG : Nat → Int32) (p1 : Int32) (p2 : Int32) : Option (Int32) :=
  (bd (fX8_find_F bc_ p1) (fun v_1 => (if p2 = 0 then (bd (fX0_kind nc fl cs CX CY CZ LL GG) (fun v_3 => (some v_3))) else (if p2 = 1 then (some fl) else (if p2 = 2 then (some cs) else (if p2 = 3 then (some ss) else (if p2 = 4 then (some mo) else (some (-1)))))))))
abbrev rX8_about_F : Room := { frames := 3, cells := 0, slots := 0, locals := 66 }
set_option maxHeartbeats 40000000 in
set_option maxRecDepth 100000 in
theorem kX8_about_F (l : Launch) (G : GT) (h0 qb f0 c0 cx cy cz s0 sa sb sc se b0 ba bb bc be al ag d0 qs m0 aw : Nat) (nc ns nb : Nat) (bc_ : Int32) (RB : Nat → Option Nat) (fl : Int32) (mo : Int32) (og : Option Nat) (cs : Int32) (CX : Nat → Int32) (CY : Nat → Int32) (CZ : Nat → Int32) (ss : Int32) (SA : Nat → Int32) (SB : Nat → Int32) (SC : Nat → Int32) (SE : Nat → Int32) (bs : Int32) (BA : Nat → Int32) (BB : Nat → Int32) (BC : Nat → Int32) (BD : Nat → Int32) (LL : Nat → Int32) (GG : Nat → Int32) (p1 : Int32) (p2 : Int32) (hq : RB p1.toNatClampNeg = some f0) (res : Int32) (hF : fX8_about_F nc bc_ fl mo cs CX CY CZ ss LL GG p1 p2 = some res) : Met l yX8_about wsX8_about rX8_about_F (va_Pc [.ref h0, .int p1, .int p2] (pR G (wXF G h0 qb f0 c0 cx cy cz s0 sa sb sc se b0 ba bb bc be al ag d0 qs m0 aw nc ns nb bc_ RB fl mo og cs CX CY CZ ss SA SB SC SE bs BA BB BC BD LL GG))) (vp_Si (fun r => r = res)) 0 0 (fun _ => False) := by
  refine Met.ofW (cc := cX8_about) (maxL := 4) (ret := (some .int)) (by decide) rfl ?_
  intro p e s m args below meth c s₁ B hml hv
  obtain ⟨rfl, hP, hK⟩ := hv
  have hx := B.exec
  have hb := B.bytes
  have hr := B.returns
  have hts := atoms_spec (ws := wsX8_about) B.pre
  have hown : s.vm.findClass RX8 = some m.cls := findClass_of_methodNamed B.named
  have hlocks := B.notSynchronized
  have hin0 : ∀ w ∈ u_ws RX0 TX0 9, w ∈ wsX8_about := by decide +kernel
  have hfl97 := hts (.fieldLink RX8 97 "SwellBodies$Body" "fills" "I") (by decide +kernel)
  have hfl100 := hts (.fieldLink RX8 100 "SwellBodies$Body" "corners" "LSwellBodies$Points;") (by decide +kernel)
  have hin4 : ∀ w ∈ u_ws RX4 TX4 4, w ∈ wsX8_about := by decide +kernel
  have hfl42 := hts (.fieldLink RX8 42 "SwellBodies$Points" "size" "I") (by decide +kernel)
  have hfl103 := hts (.fieldLink RX8 103 "SwellBodies$Body" "sides" "LSwellBodies$Conditions;") (by decide +kernel)
  have hin1 : ∀ w ∈ u_ws RX1 TX1 5, w ∈ wsX8_about := by decide +kernel
  have hfl107 := hts (.fieldLink RX8 107 "SwellBodies$Conditions" "size" "I") (by decide +kernel)
  have hfl110 := hts (.fieldLink RX8 110 "SwellBodies$Body" "madeOf" "I") (by decide +kernel)
  have hl := lv_entry ([.ref h0, .int p1, .int p2]) (n := 4) (Nat.le_of_ble_eq_true rfl)
  rw [lg_entry_eq]
  generalize (lg_sl ([.ref h0, .int p1, .int p2]) ++ List.replicate (4 - (lg_sl ([.ref h0, .int p1, .int p2])).length) Slot.unset).toArray = ls at hl ⊢
  have hl : lv_has ls 4 [(0, .ref h0), (1, .int p1), (2, .int p2)] := hl
  unfold fX8_about_F at hF
  refine lv_aload_n hx hb dX8_about_0 rfl (lv_at hl 0 rfl) ?_
  refine lv_iload_n hx hb dX8_about_1 rfl (lv_at hl 1 rfl) ?_
  obtain ⟨v_1, hv_1, hF⟩ := bd_s hF
  refine ro_qe (va_runV (As := [.int p1]) (rest := []) ⟨hx, hb, hml, hown, hts⟩ (kX8_find_F l G h0 qb d0 qs m0 f0 bc_ RB p1 (by assumption) v_1 hv_1) (cwV 1 hts gX8_about_X8_find rfl rfl rfl (by decide +kernel) ⟨Nat.le_of_ble_eq_true rfl, Nat.le_of_ble_eq_true rfl⟩) (pvR (q0 := 0) 8 hK (hP.sub (ws' := (wXB G h0 qb d0 qs m0 m0 bc_ RB)) [0, 1] rfl) rfl rfl) rfl rfl hl.1 rfl (lv_room (Nat.le_of_ble_eq_true rfl)) dX8_about_2 ⟨Nat.le_of_ble_eq_true rfl, Nat.le_of_ble_eq_true rfl⟩) ?_
  refine lv_astore_n (lv' := [(3, .ref f0), (0, .ref h0), (1, .int p1), (2, .int p2)]) hx hb dX8_about_5 rfl hl (by decide) rfl (fun ls hl => ?_)
  refine lv_aload_n hx hb dX8_about_6 rfl (lv_at hl 0 rfl) ?_
  refine lv_ifnonnull (tgt := 12) hx hb dX8_about_7 (by decide) ?_
  refine lv_iload_n hx hb dX8_about_12 rfl (lv_at hl 3 rfl) ?_
  by_cases c_2 : p2 = 0
  · replace hF := it_p c_2 hF
    refine lv_tableIn (off := 35) (tgt := 48) hx hb dX8_about_13 (by rw [c_2]; decide) (by rw [c_2]; decide) (by rw [c_2]; decide) (by decide) ?_
    refine lv_aload_n hx hb dX8_about_48 rfl (lv_at hl 0 rfl) ?_
    obtain ⟨v_3, hv_3, hF⟩ := bd_s hF
    refine ro_ie (va_runV (As := []) (rest := []) ⟨hx, hb, hml, hown, hts⟩ (kX0_kind l G f0 c0 cx cy cz al ag s0 b0 aw nc fl mo og cs CX CY CZ LL GG v_3 hv_3) (cwV 0 hts gX8_about_X0_kind rfl rfl rfl (by decide +kernel) ⟨Nat.le_of_ble_eq_true rfl, Nat.le_of_ble_eq_true rfl⟩) (pvR (q0 := 0) 0 hK (hP.sub (ws' := (wBdK G f0 c0 cx cy cz al ag s0 b0 aw nc fl mo og cs CX CY CZ LL GG)) [2, 3, 4, 5, 6, 17, 18] rfl) rfl rfl) rfl rfl hl.1 rfl (lv_room (Nat.le_of_ble_eq_true rfl)) dX8_about_49 ⟨Nat.le_of_ble_eq_true rfl, Nat.le_of_ble_eq_true rfl⟩) ?_
    exact W.iret (v := v_3) hx hb hr  (fun t ht hW => ⟨v_3, rfl, (so_e hF), ht⟩) (fun q h => absurd h List.not_mem_nil) dX8_about_52
  · replace hF := it_n c_2 hF
    by_cases c_4 : p2 = 1
    · replace hF := it_p c_4 hF
      refine lv_tableIn (off := 40) (tgt := 53) hx hb dX8_about_13 (by rw [c_4]; decide) (by rw [c_4]; decide) (by rw [c_4]; decide) (by decide) ?_
      refine lv_aload_n hx hb dX8_about_53 rfl (lv_at hl 0 rfl) ?_
      refine va_get (ci := 0) (v := .int fl) (C := RX0) (T := TX0) (N := 9) hx hb hts hin0 hown hK hP 2 rfl rfl 0 (by decide) hfl97 (fun _ h9 => h9) rfl dX8_about_54 ?_
      exact W.iret (v := fl) hx hb hr  (fun t ht hW => ⟨fl, rfl, (so_e hF), ht⟩) (fun q h => absurd h List.not_mem_nil) dX8_about_57
    · replace hF := it_n c_4 hF
      by_cases c_5 : p2 = 2
      · replace hF := it_p c_5 hF
        refine lv_tableIn (off := 45) (tgt := 58) hx hb dX8_about_13 (by rw [c_5]; decide) (by rw [c_5]; decide) (by rw [c_5]; decide) (by decide) ?_
        refine lv_aload_n hx hb dX8_about_58 rfl (lv_at hl 0 rfl) ?_
        refine va_get (ci := 0) (v := .ref c0) (C := RX0) (T := TX0) (N := 9) hx hb hts hin0 hown hK hP 2 rfl rfl 2 (by decide) hfl100 (fun _ h9 => h9) rfl dX8_about_59 ?_
        refine va_get (ci := 4) (v := .int cs) (C := RX4) (T := TX4) (N := 4) hx hb hts hin4 hown hK hP 3 rfl rfl 3 (by decide) hfl42 (fun _ h9 => h9) rfl dX8_about_62 ?_
        exact W.iret (v := cs) hx hb hr  (fun t ht hW => ⟨cs, rfl, (so_e hF), ht⟩) (fun q h => absurd h List.not_mem_nil) dX8_about_65
      · replace hF := it_n c_5 hF
        by_cases c_6 : p2 = 3
        · replace hF := it_p c_6 hF
          refine lv_tableIn (off := 53) (tgt := 66) hx hb dX8_about_13 (by rw [c_6]; decide) (by rw [c_6]; decide) (by rw [c_6]; decide) (by decide) ?_
          refine lv_aload_n hx hb dX8_about_66 rfl (lv_at hl 0 rfl) ?_
          refine va_get (ci := 0) (v := .ref s0) (C := RX0) (T := TX0) (N := 9) hx hb hts hin0 hown hK hP 2 rfl rfl 3 (by decide) hfl103 (fun _ h9 => h9) rfl dX8_about_67 ?_
          refine va_get (ci := 1) (v := .int ss) (C := RX1) (T := TX1) (N := 5) hx hb hts hin1 hown hK hP 7 rfl rfl 4 (by decide) hfl107 (fun _ h9 => h9) rfl dX8_about_70 ?_
          exact W.iret (v := ss) hx hb hr  (fun t ht hW => ⟨ss, rfl, (so_e hF), ht⟩) (fun q h => absurd h List.not_mem_nil) dX8_about_73
        · replace hF := it_n c_6 hF
          by_cases c_7 : p2 = 4
          · replace hF := it_p c_7 hF
            refine lv_tableIn (off := 61) (tgt := 74) hx hb dX8_about_13 (by rw [c_7]; decide) (by rw [c_7]; decide) (by rw [c_7]; decide) (by decide) ?_
            refine lv_aload_n hx hb dX8_about_74 rfl (lv_at hl 0 rfl) ?_
            refine va_get (ci := 0) (v := .int mo) (C := RX0) (T := TX0) (N := 9) hx hb hts hin0 hown hK hP 2 rfl rfl 1 (by decide) hfl110 (fun _ h9 => h9) rfl dX8_about_75 ?_
            exact W.iret (v := mo) hx hb hr  (fun t ht hW => ⟨mo, rfl, (so_e hF), ht⟩) (fun q h => absurd h List.not_mem_nil) dX8_about_78
          · replace hF := it_n c_7 hF
            refine lv_tableOut (tgt := 79) hx hb dX8_about_13 (by have e0 : p2.toInt ≠ 0 := ne_t c_2; have e1 : p2.toInt ≠ 1 := ne_t c_4; have e2 : p2.toInt ≠ 2 := ne_t c_5; have e3 : p2.toInt ≠ 3 := ne_t c_6; have e4 : p2.toInt ≠ 4 := ne_t c_7; omega) (by decide) ?_
            refine lv_iconst (v := (-1)) hx hb dX8_about_79 (by decide) ?_
            exact W.iret (v := (-1)) hx hb hr  (fun t ht hW => ⟨(-1), rfl, (so_e hF), ht⟩) (fun q h => absurd h List.not_mem_nil) dX8_about_80
def fX8_cornerOf_N (bc_ : Int32) (p1 : Int32) (p2 : Int32) (p3 : Int32) : Option (Int32) :=
  (bd (fX8_find_N bc_ p1) (fun v_1 => (some 1000)))
abbrev rX8_cornerOf_N : Room := { frames := 1, cells := 0, slots := 0, locals := 21 }
set_option maxHeartbeats 40000000 in
set_option maxRecDepth 100000 in
theorem kX8_cornerOf_N (l : Launch) (G : GT) (h0 qb d0 qs m0 : Nat) (bc_ : Int32) (RB : Nat → Option Nat) (p1 : Int32) (p2 : Int32) (p3 : Int32) (res : Int32) (hF : fX8_cornerOf_N bc_ p1 p2 p3 = some res) : Met l yX8_cornerOf wsX8_cornerOf rX8_cornerOf_N (va_Pc [.ref h0, .int p1, .int p2, .int p3] (pR G (wXBn G h0 qb d0 qs m0 bc_ RB))) (vp_Si (fun r => r = res)) 0 0 (fun _ => False) := by
  refine Met.ofW (cc := cX8_cornerOf) (maxL := 5) (ret := (some .int)) (by decide) rfl ?_
  intro p e s m args below meth c s₁ B hml hv
  obtain ⟨rfl, hP, hK⟩ := hv
  have hx := B.exec
  have hb := B.bytes
  have hr := B.returns
  have hts := atoms_spec (ws := wsX8_cornerOf) B.pre
  have hown : s.vm.findClass RX8 = some m.cls := findClass_of_methodNamed B.named
  have hlocks := B.notSynchronized
  have hl := lv_entry ([.ref h0, .int p1, .int p2, .int p3]) (n := 5) (Nat.le_of_ble_eq_true rfl)
  rw [lg_entry_eq]
  generalize (lg_sl ([.ref h0, .int p1, .int p2, .int p3]) ++ List.replicate (5 - (lg_sl ([.ref h0, .int p1, .int p2, .int p3])).length) Slot.unset).toArray = ls at hl ⊢
  have hl : lv_has ls 5 [(0, .ref h0), (1, .int p1), (2, .int p2), (3, .int p3)] := hl
  unfold fX8_cornerOf_N at hF
  refine lv_aload_n hx hb dX8_cornerOf_0 rfl (lv_at hl 0 rfl) ?_
  refine lv_iload_n hx hb dX8_cornerOf_1 rfl (lv_at hl 1 rfl) ?_
  obtain ⟨v_1, hv_1, hF⟩ := bd_s hF
  refine ro_qe (va_runV (As := [.int p1]) (rest := []) ⟨hx, hb, hml, hown, hts⟩ (kX8_find_N l G h0 qb d0 qs m0 bc_ RB p1 v_1 hv_1) (cwV 1 hts gX8_cornerOf_X8_find rfl rfl rfl (by decide +kernel) ⟨Nat.le_of_ble_eq_true rfl, Nat.le_of_ble_eq_true rfl⟩) (pvR (q0 := 0) 8 hK (hP.sub (ws' := (wXBn G h0 qb d0 qs m0 bc_ RB)) [0, 1] rfl) rfl rfl) rfl rfl hl.1 rfl (lv_room (Nat.le_of_ble_eq_true rfl)) dX8_cornerOf_2 ⟨Nat.le_of_ble_eq_true rfl, Nat.le_of_ble_eq_true rfl⟩) ?_
  refine lv_astoreN (lv' := [(4, .null), (0, .ref h0), (1, .int p1), (2, .int p2), (3, .int p3)]) hx hb dX8_cornerOf_5 hl (by decide) rfl (fun ls hl => ?_)
  refine lv_aloadN hx hb dX8_cornerOf_7 (lv_at hl 0 rfl) ?_
  refine lv_ifnullN (tgt := 35) hx hb dX8_cornerOf_9 (by decide) ?_
  refine lv_sipush (v := 1000) hx hb dX8_cornerOf_35 (by decide) ?_
  exact W.iret (v := 1000) hx hb hr  (fun t ht hW => ⟨1000, rfl, (so_e hF), ht⟩) (fun q h => absurd h List.not_mem_nil) dX8_cornerOf_38
def fX8_cornerOf_F (nc : Nat) (bc_ : Int32) (cs : Int32) (CX : Nat → Int32) (CY : Nat → Int32) (CZ : Nat → Int32) (p1 : Int32) (p2 : Int32) (p3 : Int32) : Option (Int32) :=
  (bd (fX8_find_F bc_ p1) (fun v_1 => (if p2 < 0 then (some 1000) else (if cs ≤ p2 then (some 1000) else (bd (fX8_isWay p3) (fun v_4 => (if v_4 = 0 then (some 1000) else (bd (fX4_part nc cs CX CY CZ p2 p3) (fun v_7 => (some v_7))))))))))
abbrev rX8_cornerOf_F : Room := { frames := 1, cells := 0, slots := 0, locals := 22 }
set_option maxHeartbeats 40000000 in
set_option maxRecDepth 100000 in
theorem kX8_cornerOf_F (l : Launch) (G : GT) (h0 qb f0 c0 cx cy cz s0 sa sb sc se b0 ba bb bc be al ag d0 qs m0 aw : Nat) (nc ns nb : Nat) (bc_ : Int32) (RB : Nat → Option Nat) (fl : Int32) (mo : Int32) (og : Option Nat) (cs : Int32) (CX : Nat → Int32) (CY : Nat → Int32) (CZ : Nat → Int32) (ss : Int32) (SA : Nat → Int32) (SB : Nat → Int32) (SC : Nat → Int32) (SE : Nat → Int32) (bs : Int32) (BA : Nat → Int32) (BB : Nat → Int32) (BC : Nat → Int32) (BD : Nat → Int32) (LL : Nat → Int32) (GG : Nat → Int32) (p1 : Int32) (p2 : Int32) (p3 : Int32) (hq : RB p1.toNatClampNeg = some f0) (res : Int32) (hF : fX8_cornerOf_F nc bc_ cs CX CY CZ p1 p2 p3 = some res) : Met l yX8_cornerOf wsX8_cornerOf rX8_cornerOf_F (va_Pc [.ref h0, .int p1, .int p2, .int p3] (pR G (wXF G h0 qb f0 c0 cx cy cz s0 sa sb sc se b0 ba bb bc be al ag d0 qs m0 aw nc ns nb bc_ RB fl mo og cs CX CY CZ ss SA SB SC SE bs BA BB BC BD LL GG))) (vp_Si (fun r => r = res)) 0 0 (fun _ => False) := by
  refine Met.ofW (cc := cX8_cornerOf) (maxL := 5) (ret := (some .int)) (by decide) rfl ?_
  intro p e s m args below meth c s₁ B hml hv
  obtain ⟨rfl, hP, hK⟩ := hv
  have hx := B.exec
  have hb := B.bytes
  have hr := B.returns
  have hts := atoms_spec (ws := wsX8_cornerOf) B.pre
  have hown : s.vm.findClass RX8 = some m.cls := findClass_of_methodNamed B.named
  have hlocks := B.notSynchronized
  have hin0 : ∀ w ∈ u_ws RX0 TX0 9, w ∈ wsX8_cornerOf := by decide +kernel
  have hfl100 := hts (.fieldLink RX8 100 "SwellBodies$Body" "corners" "LSwellBodies$Points;") (by decide +kernel)
  have hin4 : ∀ w ∈ u_ws RX4 TX4 4, w ∈ wsX8_cornerOf := by decide +kernel
  have hfl42 := hts (.fieldLink RX8 42 "SwellBodies$Points" "size" "I") (by decide +kernel)
  have hl := lv_entry ([.ref h0, .int p1, .int p2, .int p3]) (n := 5) (Nat.le_of_ble_eq_true rfl)
  rw [lg_entry_eq]
  generalize (lg_sl ([.ref h0, .int p1, .int p2, .int p3]) ++ List.replicate (5 - (lg_sl ([.ref h0, .int p1, .int p2, .int p3])).length) Slot.unset).toArray = ls at hl ⊢
  have hl : lv_has ls 5 [(0, .ref h0), (1, .int p1), (2, .int p2), (3, .int p3)] := hl
  unfold fX8_cornerOf_F at hF
  refine lv_aload_n hx hb dX8_cornerOf_0 rfl (lv_at hl 0 rfl) ?_
  refine lv_iload_n hx hb dX8_cornerOf_1 rfl (lv_at hl 1 rfl) ?_
  obtain ⟨v_1, hv_1, hF⟩ := bd_s hF
  refine ro_qe (va_runV (As := [.int p1]) (rest := []) ⟨hx, hb, hml, hown, hts⟩ (kX8_find_F l G h0 qb d0 qs m0 f0 bc_ RB p1 (by assumption) v_1 hv_1) (cwV 1 hts gX8_cornerOf_X8_find rfl rfl rfl (by decide +kernel) ⟨Nat.le_of_ble_eq_true rfl, Nat.le_of_ble_eq_true rfl⟩) (pvR (q0 := 0) 8 hK (hP.sub (ws' := (wXB G h0 qb d0 qs m0 m0 bc_ RB)) [0, 1] rfl) rfl rfl) rfl rfl hl.1 rfl (lv_room (Nat.le_of_ble_eq_true rfl)) dX8_cornerOf_2 ⟨Nat.le_of_ble_eq_true rfl, Nat.le_of_ble_eq_true rfl⟩) ?_
  refine lv_astore (lv' := [(4, .ref f0), (0, .ref h0), (1, .int p1), (2, .int p2), (3, .int p3)]) hx hb dX8_cornerOf_5 hl (by decide) rfl (fun ls hl => ?_)
  refine lv_aload hx hb dX8_cornerOf_7 (lv_at hl 0 rfl) ?_
  refine lv_ifnull hx hb dX8_cornerOf_9 ?_
  refine lv_iload_n hx hb dX8_cornerOf_12 rfl (lv_at hl 3 rfl) ?_
  refine lv_if_lt (tgt := 35) hx hb dX8_cornerOf_13 (by decide) (fun c_2 => ?_) (fun c_2 => ?_)
  · replace hF := it_p c_2 hF
    refine lv_sipush (v := 1000) hx hb dX8_cornerOf_35 (by decide) ?_
    exact W.iret (v := 1000) hx hb hr  (fun t ht hW => ⟨1000, rfl, (so_e hF), ht⟩) (fun q h => absurd h List.not_mem_nil) dX8_cornerOf_38
  · replace hF := it_n c_2 hF
    refine lv_iload_n hx hb dX8_cornerOf_16 rfl (lv_at hl 3 rfl) ?_
    refine lv_aload hx hb dX8_cornerOf_17 (lv_at hl 0 rfl) ?_
    refine va_get (ci := 0) (v := .ref c0) (C := RX0) (T := TX0) (N := 9) hx hb hts hin0 hown hK hP 2 rfl rfl 2 (by decide) hfl100 (fun _ h9 => h9) rfl dX8_cornerOf_19 ?_
    refine va_get (ci := 4) (v := .int cs) (C := RX4) (T := TX4) (N := 4) hx hb hts hin4 hown hK hP 3 rfl rfl 3 (by decide) hfl42 (fun _ h9 => h9) rfl dX8_cornerOf_22 ?_
    refine lv_icmp_ge (tgt := 35) hx hb dX8_cornerOf_25 (by decide) (fun c_3 => ?_) (fun c_3 => ?_)
    · replace hF := it_p c_3 hF
      refine lv_sipush (v := 1000) hx hb dX8_cornerOf_35 (by decide) ?_
      exact W.iret (v := 1000) hx hb hr  (fun t ht hW => ⟨1000, rfl, (so_e hF), ht⟩) (fun q h => absurd h List.not_mem_nil) dX8_cornerOf_38
    · replace hF := it_n c_3 hF
      refine lv_iload_n hx hb dX8_cornerOf_28 rfl (lv_at hl 4 rfl) ?_
      obtain ⟨v_4, hv_4, hF⟩ := bd_s hF
      refine ro_ze (va_runS (As := [.int p3]) (rest := []) ⟨hx, hb, hml, hown, hts⟩ (kX8_isWay l G p3 v_4 hv_4) (va_cwS 1 hts gX8_cornerOf_X8_isWay rfl rfl rfl (by decide +kernel) ⟨Nat.le_of_ble_eq_true rfl, Nat.le_of_ble_eq_true rfl⟩) (psR hK (hP.sub (ws' := ([] : va_W)) [] rfl)) rfl rfl hl.1 rfl (lv_room (Nat.le_of_ble_eq_true rfl)) dX8_cornerOf_29 ⟨Nat.le_of_ble_eq_true rfl, Nat.le_of_ble_eq_true rfl⟩) (fun hb_5 => ?_)
      refine lv_if_ne (tgt := 39) hx hb dX8_cornerOf_32 (by decide) (fun c_6 => ?_) (fun c_6 => ?_)
      · replace hF := it_n c_6 hF
        refine lv_aload hx hb dX8_cornerOf_39 (lv_at hl 0 rfl) ?_
        refine va_get (ci := 0) (v := .ref c0) (C := RX0) (T := TX0) (N := 9) hx hb hts hin0 hown hK hP 2 rfl rfl 2 (by decide) hfl100 (fun _ h9 => h9) rfl dX8_cornerOf_41 ?_
        refine lv_iload_n hx hb dX8_cornerOf_44 rfl (lv_at hl 3 rfl) ?_
        refine lv_iload_n hx hb dX8_cornerOf_45 rfl (lv_at hl 4 rfl) ?_
        obtain ⟨v_7, hv_7, hF⟩ := bd_s hF
        refine ro_ie (va_runV (As := [.int p2, .int p3]) (rest := []) ⟨hx, hb, hml, hown, hts⟩ (kX4_part l G c0 cx cy cz nc cs CX CY CZ p2 p3 v_7 hv_7) (cwV 2 hts gX8_cornerOf_X4_part rfl rfl rfl (by decide +kernel) ⟨Nat.le_of_ble_eq_true rfl, Nat.le_of_ble_eq_true rfl⟩) (pvR (q0 := 0) 4 hK (hP.sub (ws' := (wPts G c0 cx cy cz nc cs CX CY CZ)) [3, 4, 5, 6] rfl) rfl rfl) rfl rfl hl.1 rfl (lv_room (Nat.le_of_ble_eq_true rfl)) dX8_cornerOf_46 ⟨Nat.le_of_ble_eq_true rfl, Nat.le_of_ble_eq_true rfl⟩) ?_
        exact W.iret (v := v_7) hx hb hr  (fun t ht hW => ⟨v_7, rfl, (so_e hF), ht⟩) (fun q h => absurd h List.not_mem_nil) dX8_cornerOf_49
      · replace hF := it_p c_6 hF
        refine lv_sipush (v := 1000) hx hb dX8_cornerOf_35 (by decide) ?_
        exact W.iret (v := 1000) hx hb hr  (fun t ht hW => ⟨1000, rfl, (so_e hF), ht⟩) (fun q h => absurd h List.not_mem_nil) dX8_cornerOf_38
def fX8_side_N (bc_ : Int32) (p1 : Int32) (p2 : Int32) (p3 : Int32) : Option (Int32) :=
  (bd (fX8_find_N bc_ p1) (fun v_1 => (some 1000)))
abbrev rX8_side_N : Room := { frames := 1, cells := 0, slots := 0, locals := 21 }
set_option maxHeartbeats 40000000 in
set_option maxRecDepth 100000 in
theorem kX8_side_N (l : Launch) (G : GT) (h0 qb d0 qs m0 : Nat) (bc_ : Int32) (RB : Nat → Option Nat) (p1 : Int32) (p2 : Int32) (p3 : Int32) (res : Int32) (hF : fX8_side_N bc_ p1 p2 p3 = some res) : Met l yX8_side wsX8_side rX8_side_N (va_Pc [.ref h0, .int p1, .int p2, .int p3] (pR G (wXBn G h0 qb d0 qs m0 bc_ RB))) (vp_Si (fun r => r = res)) 0 0 (fun _ => False) := by
  refine Met.ofW (cc := cX8_side) (maxL := 5) (ret := (some .int)) (by decide) rfl ?_
  intro p e s m args below meth c s₁ B hml hv
  obtain ⟨rfl, hP, hK⟩ := hv
  have hx := B.exec
  have hb := B.bytes
  have hr := B.returns
  have hts := atoms_spec (ws := wsX8_side) B.pre
  have hown : s.vm.findClass RX8 = some m.cls := findClass_of_methodNamed B.named
  have hlocks := B.notSynchronized
  have hl := lv_entry ([.ref h0, .int p1, .int p2, .int p3]) (n := 5) (Nat.le_of_ble_eq_true rfl)
  rw [lg_entry_eq]
  generalize (lg_sl ([.ref h0, .int p1, .int p2, .int p3]) ++ List.replicate (5 - (lg_sl ([.ref h0, .int p1, .int p2, .int p3])).length) Slot.unset).toArray = ls at hl ⊢
  have hl : lv_has ls 5 [(0, .ref h0), (1, .int p1), (2, .int p2), (3, .int p3)] := hl
  unfold fX8_side_N at hF
  refine lv_aload_n hx hb dX8_side_0 rfl (lv_at hl 0 rfl) ?_
  refine lv_iload_n hx hb dX8_side_1 rfl (lv_at hl 1 rfl) ?_
  obtain ⟨v_1, hv_1, hF⟩ := bd_s hF
  refine ro_qe (va_runV (As := [.int p1]) (rest := []) ⟨hx, hb, hml, hown, hts⟩ (kX8_find_N l G h0 qb d0 qs m0 bc_ RB p1 v_1 hv_1) (cwV 1 hts gX8_side_X8_find rfl rfl rfl (by decide +kernel) ⟨Nat.le_of_ble_eq_true rfl, Nat.le_of_ble_eq_true rfl⟩) (pvR (q0 := 0) 8 hK (hP.sub (ws' := (wXBn G h0 qb d0 qs m0 bc_ RB)) [0, 1] rfl) rfl rfl) rfl rfl hl.1 rfl (lv_room (Nat.le_of_ble_eq_true rfl)) dX8_side_2 ⟨Nat.le_of_ble_eq_true rfl, Nat.le_of_ble_eq_true rfl⟩) ?_
  refine lv_astoreN (lv' := [(4, .null), (0, .ref h0), (1, .int p1), (2, .int p2), (3, .int p3)]) hx hb dX8_side_5 hl (by decide) rfl (fun ls hl => ?_)
  refine lv_aloadN hx hb dX8_side_7 (lv_at hl 0 rfl) ?_
  refine lv_ifnullN (tgt := 21) hx hb dX8_side_9 (by decide) ?_
  refine lv_sipush (v := 1000) hx hb dX8_side_21 (by decide) ?_
  exact W.iret (v := 1000) hx hb hr  (fun t ht hW => ⟨1000, rfl, (so_e hF), ht⟩) (fun q h => absurd h List.not_mem_nil) dX8_side_24
def fX8_side_F (ns : Nat) (nb : Nat) (bc_ : Int32) (fl : Int32) (ss : Int32) (SA : Nat → Int32) (SB : Nat → Int32) (SC : Nat → Int32) (SE : Nat → Int32) (bs : Int32) (BA : Nat → Int32) (BB : Nat → Int32) (BC : Nat → Int32) (BD : Nat → Int32) (p1 : Int32) (p2 : Int32) (p3 : Int32) : Option (Int32) :=
  (bd (fX8_find_F bc_ p1) (fun v_1 => (if p3 < 0 then (some 1000) else (if p3 ≤ 3 then (if p2 = (-4) then (if fl = 2 then (bd (fX1_part nb bs BA BB BC BD 0 p3) (fun v_9 => (some v_9))) else (some 1000)) else (if p2 < 0 then (some 1000) else (if ss ≤ p2 then (some 1000) else (bd (fX1_part ns ss SA SB SC SE p2 p3) (fun v_7 => (some v_7)))))) else (some 1000)))))
abbrev rX8_side_F : Room := { frames := 1, cells := 0, slots := 0, locals := 22 }
set_option maxHeartbeats 40000000 in
set_option maxRecDepth 100000 in
theorem kX8_side_F (l : Launch) (G : GT) (h0 qb f0 c0 cx cy cz s0 sa sb sc se b0 ba bb bc be al ag d0 qs m0 aw : Nat) (nc ns nb : Nat) (bc_ : Int32) (RB : Nat → Option Nat) (fl : Int32) (mo : Int32) (og : Option Nat) (cs : Int32) (CX : Nat → Int32) (CY : Nat → Int32) (CZ : Nat → Int32) (ss : Int32) (SA : Nat → Int32) (SB : Nat → Int32) (SC : Nat → Int32) (SE : Nat → Int32) (bs : Int32) (BA : Nat → Int32) (BB : Nat → Int32) (BC : Nat → Int32) (BD : Nat → Int32) (LL : Nat → Int32) (GG : Nat → Int32) (p1 : Int32) (p2 : Int32) (p3 : Int32) (hq : RB p1.toNatClampNeg = some f0) (res : Int32) (hF : fX8_side_F ns nb bc_ fl ss SA SB SC SE bs BA BB BC BD p1 p2 p3 = some res) : Met l yX8_side wsX8_side rX8_side_F (va_Pc [.ref h0, .int p1, .int p2, .int p3] (pR G (wXF G h0 qb f0 c0 cx cy cz s0 sa sb sc se b0 ba bb bc be al ag d0 qs m0 aw nc ns nb bc_ RB fl mo og cs CX CY CZ ss SA SB SC SE bs BA BB BC BD LL GG))) (vp_Si (fun r => r = res)) 0 0 (fun _ => False) := by
  refine Met.ofW (cc := cX8_side) (maxL := 5) (ret := (some .int)) (by decide) rfl ?_
  intro p e s m args below meth c s₁ B hml hv
  obtain ⟨rfl, hP, hK⟩ := hv
  have hx := B.exec
  have hb := B.bytes
  have hr := B.returns
  have hts := atoms_spec (ws := wsX8_side) B.pre
  have hown : s.vm.findClass RX8 = some m.cls := findClass_of_methodNamed B.named
  have hlocks := B.notSynchronized
  have hin0 : ∀ w ∈ u_ws RX0 TX0 9, w ∈ wsX8_side := by decide +kernel
  have hfl103 := hts (.fieldLink RX8 103 "SwellBodies$Body" "sides" "LSwellBodies$Conditions;") (by decide +kernel)
  have hin1 : ∀ w ∈ u_ws RX1 TX1 5, w ∈ wsX8_side := by decide +kernel
  have hfl107 := hts (.fieldLink RX8 107 "SwellBodies$Conditions" "size" "I") (by decide +kernel)
  have hfl97 := hts (.fieldLink RX8 97 "SwellBodies$Body" "fills" "I") (by decide +kernel)
  have hfl120 := hts (.fieldLink RX8 120 "SwellBodies$Body" "bonds" "LSwellBodies$Conditions;") (by decide +kernel)
  have hl := lv_entry ([.ref h0, .int p1, .int p2, .int p3]) (n := 5) (Nat.le_of_ble_eq_true rfl)
  rw [lg_entry_eq]
  generalize (lg_sl ([.ref h0, .int p1, .int p2, .int p3]) ++ List.replicate (5 - (lg_sl ([.ref h0, .int p1, .int p2, .int p3])).length) Slot.unset).toArray = ls at hl ⊢
  have hl : lv_has ls 5 [(0, .ref h0), (1, .int p1), (2, .int p2), (3, .int p3)] := hl
  unfold fX8_side_F at hF
  refine lv_aload_n hx hb dX8_side_0 rfl (lv_at hl 0 rfl) ?_
  refine lv_iload_n hx hb dX8_side_1 rfl (lv_at hl 1 rfl) ?_
  obtain ⟨v_1, hv_1, hF⟩ := bd_s hF
  refine ro_qe (va_runV (As := [.int p1]) (rest := []) ⟨hx, hb, hml, hown, hts⟩ (kX8_find_F l G h0 qb d0 qs m0 f0 bc_ RB p1 (by assumption) v_1 hv_1) (cwV 1 hts gX8_side_X8_find rfl rfl rfl (by decide +kernel) ⟨Nat.le_of_ble_eq_true rfl, Nat.le_of_ble_eq_true rfl⟩) (pvR (q0 := 0) 8 hK (hP.sub (ws' := (wXB G h0 qb d0 qs m0 m0 bc_ RB)) [0, 1] rfl) rfl rfl) rfl rfl hl.1 rfl (lv_room (Nat.le_of_ble_eq_true rfl)) dX8_side_2 ⟨Nat.le_of_ble_eq_true rfl, Nat.le_of_ble_eq_true rfl⟩) ?_
  refine lv_astore (lv' := [(4, .ref f0), (0, .ref h0), (1, .int p1), (2, .int p2), (3, .int p3)]) hx hb dX8_side_5 hl (by decide) rfl (fun ls hl => ?_)
  refine lv_aload hx hb dX8_side_7 (lv_at hl 0 rfl) ?_
  refine lv_ifnull hx hb dX8_side_9 ?_
  refine lv_iload_n hx hb dX8_side_12 rfl (lv_at hl 4 rfl) ?_
  refine lv_if_lt (tgt := 21) hx hb dX8_side_13 (by decide) (fun c_2 => ?_) (fun c_2 => ?_)
  · replace hF := it_p c_2 hF
    refine lv_sipush (v := 1000) hx hb dX8_side_21 (by decide) ?_
    exact W.iret (v := 1000) hx hb hr  (fun t ht hW => ⟨1000, rfl, (so_e hF), ht⟩) (fun q h => absurd h List.not_mem_nil) dX8_side_24
  · replace hF := it_n c_2 hF
    refine lv_iload_n hx hb dX8_side_16 rfl (lv_at hl 4 rfl) ?_
    refine lv_iconst (v := 3) hx hb dX8_side_17 (by decide) ?_
    refine lv_icmp_le (tgt := 25) hx hb dX8_side_18 (by decide) (fun c_3 => ?_) (fun c_3 => ?_)
    · replace hF := it_p c_3 hF
      refine lv_iload_n hx hb dX8_side_25 rfl (lv_at hl 3 rfl) ?_
      refine lv_bipush (v := (-4)) hx hb dX8_side_26 (by decide) ?_
      refine lv_icmp_ne (tgt := 57) hx hb dX8_side_28 (by decide) (fun c_4 => ?_) (fun c_4 => ?_)
      · replace hF := it_n c_4 hF
        refine lv_iload_n hx hb dX8_side_57 rfl (lv_at hl 3 rfl) ?_
        refine lv_if_lt (tgt := 86) hx hb dX8_side_58 (by decide) (fun c_5 => ?_) (fun c_5 => ?_)
        · replace hF := it_p c_5 hF
          refine lv_sipush (v := 1000) hx hb dX8_side_86 (by decide) ?_
          exact W.iret (v := 1000) hx hb hr  (fun t ht hW => ⟨1000, rfl, (so_e hF), ht⟩) (fun q h => absurd h List.not_mem_nil) dX8_side_89
        · replace hF := it_n c_5 hF
          refine lv_iload_n hx hb dX8_side_61 rfl (lv_at hl 3 rfl) ?_
          refine lv_aload hx hb dX8_side_62 (lv_at hl 0 rfl) ?_
          refine va_get (ci := 0) (v := .ref s0) (C := RX0) (T := TX0) (N := 9) hx hb hts hin0 hown hK hP 2 rfl rfl 3 (by decide) hfl103 (fun _ h9 => h9) rfl dX8_side_64 ?_
          refine va_get (ci := 1) (v := .int ss) (C := RX1) (T := TX1) (N := 5) hx hb hts hin1 hown hK hP 7 rfl rfl 4 (by decide) hfl107 (fun _ h9 => h9) rfl dX8_side_67 ?_
          refine lv_icmp_ge (tgt := 86) hx hb dX8_side_70 (by decide) (fun c_6 => ?_) (fun c_6 => ?_)
          · replace hF := it_p c_6 hF
            refine lv_sipush (v := 1000) hx hb dX8_side_86 (by decide) ?_
            exact W.iret (v := 1000) hx hb hr  (fun t ht hW => ⟨1000, rfl, (so_e hF), ht⟩) (fun q h => absurd h List.not_mem_nil) dX8_side_89
          · replace hF := it_n c_6 hF
            refine lv_aload hx hb dX8_side_73 (lv_at hl 0 rfl) ?_
            refine va_get (ci := 0) (v := .ref s0) (C := RX0) (T := TX0) (N := 9) hx hb hts hin0 hown hK hP 2 rfl rfl 3 (by decide) hfl103 (fun _ h9 => h9) rfl dX8_side_75 ?_
            refine lv_iload_n hx hb dX8_side_78 rfl (lv_at hl 3 rfl) ?_
            refine lv_iload_n hx hb dX8_side_79 rfl (lv_at hl 4 rfl) ?_
            obtain ⟨v_7, hv_7, hF⟩ := bd_s hF
            refine ro_ie (va_runV (As := [.int p2, .int p3]) (rest := []) ⟨hx, hb, hml, hown, hts⟩ (kX1_part l G s0 sa sb sc se ns ss SA SB SC SE p2 p3 v_7 hv_7) (cwV 2 hts gX8_side_X1_part rfl rfl rfl (by decide +kernel) ⟨Nat.le_of_ble_eq_true rfl, Nat.le_of_ble_eq_true rfl⟩) (pvR (q0 := 0) 1 hK (hP.sub (ws' := (wCnd G s0 sa sb sc se ns ss SA SB SC SE)) [7, 8, 9, 10, 11] rfl) rfl rfl) rfl rfl hl.1 rfl (lv_room (Nat.le_of_ble_eq_true rfl)) dX8_side_80 ⟨Nat.le_of_ble_eq_true rfl, Nat.le_of_ble_eq_true rfl⟩) ?_
            refine lv_goto (tgt := 89) hx hb dX8_side_83 (by decide) ?_
            exact W.iret (v := v_7) hx hb hr  (fun t ht hW => ⟨v_7, rfl, (so_e hF), ht⟩) (fun q h => absurd h List.not_mem_nil) dX8_side_89
      · replace hF := it_p c_4 hF
        refine lv_aload hx hb dX8_side_31 (lv_at hl 0 rfl) ?_
        refine va_get (ci := 0) (v := .int fl) (C := RX0) (T := TX0) (N := 9) hx hb hts hin0 hown hK hP 2 rfl rfl 0 (by decide) hfl97 (fun _ h9 => h9) rfl dX8_side_33 ?_
        refine lv_iconst (v := 2) hx hb dX8_side_36 (by decide) ?_
        refine lv_icmp_ne (tgt := 53) hx hb dX8_side_37 (by decide) (fun c_8 => ?_) (fun c_8 => ?_)
        · replace hF := it_n c_8 hF
          refine lv_sipush (v := 1000) hx hb dX8_side_53 (by decide) ?_
          exact W.iret (v := 1000) hx hb hr  (fun t ht hW => ⟨1000, rfl, (so_e hF), ht⟩) (fun q h => absurd h List.not_mem_nil) dX8_side_56
        · replace hF := it_p c_8 hF
          refine lv_aload hx hb dX8_side_40 (lv_at hl 0 rfl) ?_
          refine va_get (ci := 0) (v := .ref b0) (C := RX0) (T := TX0) (N := 9) hx hb hts hin0 hown hK hP 2 rfl rfl 4 (by decide) hfl120 (fun _ h9 => h9) rfl dX8_side_42 ?_
          refine lv_iconst (v := 0) hx hb dX8_side_45 (by decide) ?_
          refine lv_iload_n hx hb dX8_side_46 rfl (lv_at hl 4 rfl) ?_
          obtain ⟨v_9, hv_9, hF⟩ := bd_s hF
          refine ro_ie (va_runV (As := [.int 0, .int p3]) (rest := []) ⟨hx, hb, hml, hown, hts⟩ (kX1_part l G b0 ba bb bc be nb bs BA BB BC BD 0 p3 v_9 hv_9) (cwV 2 hts gX8_side_X1_part rfl rfl rfl (by decide +kernel) ⟨Nat.le_of_ble_eq_true rfl, Nat.le_of_ble_eq_true rfl⟩) (pvR (q0 := 0) 1 hK (hP.sub (ws' := (wCnd G b0 ba bb bc be nb bs BA BB BC BD)) [12, 13, 14, 15, 16] rfl) rfl rfl) rfl rfl hl.1 rfl (lv_room (Nat.le_of_ble_eq_true rfl)) dX8_side_47 ⟨Nat.le_of_ble_eq_true rfl, Nat.le_of_ble_eq_true rfl⟩) ?_
          refine lv_goto (tgt := 56) hx hb dX8_side_50 (by decide) ?_
          exact W.iret (v := v_9) hx hb hr  (fun t ht hW => ⟨v_9, rfl, (so_e hF), ht⟩) (fun q h => absurd h List.not_mem_nil) dX8_side_56
    · replace hF := it_n c_3 hF
      refine lv_sipush (v := 1000) hx hb dX8_side_21 (by decide) ?_
      exact W.iret (v := 1000) hx hb hr  (fun t ht hW => ⟨1000, rfl, (so_e hF), ht⟩) (fun q h => absurd h List.not_mem_nil) dX8_side_24
def fX8_on_N (bc_ : Int32) (p1 : Int32) (p2 : Int32) : Option (Int32) :=
  (bd (fX8_find_N bc_ p1) (fun v_1 => (some (-1))))
abbrev rX8_on_N : Room := { frames := 1, cells := 0, slots := 0, locals := 21 }
set_option maxHeartbeats 40000000 in
set_option maxRecDepth 100000 in
theorem kX8_on_N (l : Launch) (G : GT) (h0 qb d0 qs m0 : Nat) (bc_ : Int32) (RB : Nat → Option Nat) (p1 : Int32) (p2 : Int32) (res : Int32) (hF : fX8_on_N bc_ p1 p2 = some res) : Met l yX8_on wsX8_on rX8_on_N (va_Pc [.ref h0, .int p1, .int p2] (pR G (wXBn G h0 qb d0 qs m0 bc_ RB))) (vp_Si (fun r => r = res)) 0 0 (fun _ => False) := by
  refine Met.ofW (cc := cX8_on) (maxL := 4) (ret := (some .int)) (by decide) rfl ?_
  intro p e s m args below meth c s₁ B hml hv
  obtain ⟨rfl, hP, hK⟩ := hv
  have hx := B.exec
  have hb := B.bytes
  have hr := B.returns
  have hts := atoms_spec (ws := wsX8_on) B.pre
  have hown : s.vm.findClass RX8 = some m.cls := findClass_of_methodNamed B.named
  have hlocks := B.notSynchronized
  have hl := lv_entry ([.ref h0, .int p1, .int p2]) (n := 4) (Nat.le_of_ble_eq_true rfl)
  rw [lg_entry_eq]
  generalize (lg_sl ([.ref h0, .int p1, .int p2]) ++ List.replicate (4 - (lg_sl ([.ref h0, .int p1, .int p2])).length) Slot.unset).toArray = ls at hl ⊢
  have hl : lv_has ls 4 [(0, .ref h0), (1, .int p1), (2, .int p2)] := hl
  unfold fX8_on_N at hF
  refine lv_aload_n hx hb dX8_on_0 rfl (lv_at hl 0 rfl) ?_
  refine lv_iload_n hx hb dX8_on_1 rfl (lv_at hl 1 rfl) ?_
  obtain ⟨v_1, hv_1, hF⟩ := bd_s hF
  refine ro_qe (va_runV (As := [.int p1]) (rest := []) ⟨hx, hb, hml, hown, hts⟩ (kX8_find_N l G h0 qb d0 qs m0 bc_ RB p1 v_1 hv_1) (cwV 1 hts gX8_on_X8_find rfl rfl rfl (by decide +kernel) ⟨Nat.le_of_ble_eq_true rfl, Nat.le_of_ble_eq_true rfl⟩) (pvR (q0 := 0) 8 hK (hP.sub (ws' := (wXBn G h0 qb d0 qs m0 bc_ RB)) [0, 1] rfl) rfl rfl) rfl rfl hl.1 rfl (lv_room (Nat.le_of_ble_eq_true rfl)) dX8_on_2 ⟨Nat.le_of_ble_eq_true rfl, Nat.le_of_ble_eq_true rfl⟩) ?_
  refine lv_astore_nN (lv' := [(3, .null), (0, .ref h0), (1, .int p1), (2, .int p2)]) hx hb dX8_on_5 rfl hl (by decide) rfl (fun ls hl => ?_)
  refine lv_aload_nN hx hb dX8_on_6 rfl (lv_at hl 0 rfl) ?_
  refine lv_ifnullN (tgt := 25) hx hb dX8_on_7 (by decide) ?_
  refine lv_iconst (v := (-1)) hx hb dX8_on_25 (by decide) ?_
  exact W.iret (v := (-1)) hx hb hr  (fun t ht hW => ⟨(-1), rfl, (so_e hF), ht⟩) (fun q h => absurd h List.not_mem_nil) dX8_on_26
def fX8_on_F (nc : Nat) (ns : Nat) (bc_ : Int32) (cs : Int32) (CX : Nat → Int32) (CY : Nat → Int32) (CZ : Nat → Int32) (ss : Int32) (SA : Nat → Int32) (SB : Nat → Int32) (SC : Nat → Int32) (SE : Nat → Int32) (p1 : Int32) (p2 : Int32) : Option (Int32) :=
  (bd (fX8_find_F bc_ p1) (fun v_1 => (if p2 < 0 then (some (-1)) else (if p2 < ss then (bd (fX0_cornersOn nc ns cs CX CY CZ SA SB SC SE p2) (fun v_4 => (some v_4))) else (some (-1))))))
abbrev rX8_on_F : Room := { frames := 2, cells := 0, slots := 0, locals := 52 }
set_option maxHeartbeats 40000000 in
set_option maxRecDepth 100000 in
theorem kX8_on_F (l : Launch) (G : GT) (h0 qb f0 c0 cx cy cz s0 sa sb sc se b0 ba bb bc be al ag d0 qs m0 aw : Nat) (nc ns nb : Nat) (bc_ : Int32) (RB : Nat → Option Nat) (fl : Int32) (mo : Int32) (og : Option Nat) (cs : Int32) (CX : Nat → Int32) (CY : Nat → Int32) (CZ : Nat → Int32) (ss : Int32) (SA : Nat → Int32) (SB : Nat → Int32) (SC : Nat → Int32) (SE : Nat → Int32) (bs : Int32) (BA : Nat → Int32) (BB : Nat → Int32) (BC : Nat → Int32) (BD : Nat → Int32) (LL : Nat → Int32) (GG : Nat → Int32) (p1 : Int32) (p2 : Int32) (hq : RB p1.toNatClampNeg = some f0) (res : Int32) (hF : fX8_on_F nc ns bc_ cs CX CY CZ ss SA SB SC SE p1 p2 = some res) : Met l yX8_on wsX8_on rX8_on_F (va_Pc [.ref h0, .int p1, .int p2] (pR G (wXF G h0 qb f0 c0 cx cy cz s0 sa sb sc se b0 ba bb bc be al ag d0 qs m0 aw nc ns nb bc_ RB fl mo og cs CX CY CZ ss SA SB SC SE bs BA BB BC BD LL GG))) (vp_Si (fun r => r = res)) 0 0 (fun _ => False) := by
  refine Met.ofW (cc := cX8_on) (maxL := 4) (ret := (some .int)) (by decide) rfl ?_
  intro p e s m args below meth c s₁ B hml hv
  obtain ⟨rfl, hP, hK⟩ := hv
  have hx := B.exec
  have hb := B.bytes
  have hr := B.returns
  have hts := atoms_spec (ws := wsX8_on) B.pre
  have hown : s.vm.findClass RX8 = some m.cls := findClass_of_methodNamed B.named
  have hlocks := B.notSynchronized
  have hin0 : ∀ w ∈ u_ws RX0 TX0 9, w ∈ wsX8_on := by decide +kernel
  have hfl103 := hts (.fieldLink RX8 103 "SwellBodies$Body" "sides" "LSwellBodies$Conditions;") (by decide +kernel)
  have hin1 : ∀ w ∈ u_ws RX1 TX1 5, w ∈ wsX8_on := by decide +kernel
  have hfl107 := hts (.fieldLink RX8 107 "SwellBodies$Conditions" "size" "I") (by decide +kernel)
  have hl := lv_entry ([.ref h0, .int p1, .int p2]) (n := 4) (Nat.le_of_ble_eq_true rfl)
  rw [lg_entry_eq]
  generalize (lg_sl ([.ref h0, .int p1, .int p2]) ++ List.replicate (4 - (lg_sl ([.ref h0, .int p1, .int p2])).length) Slot.unset).toArray = ls at hl ⊢
  have hl : lv_has ls 4 [(0, .ref h0), (1, .int p1), (2, .int p2)] := hl
  unfold fX8_on_F at hF
  refine lv_aload_n hx hb dX8_on_0 rfl (lv_at hl 0 rfl) ?_
  refine lv_iload_n hx hb dX8_on_1 rfl (lv_at hl 1 rfl) ?_
  obtain ⟨v_1, hv_1, hF⟩ := bd_s hF
  refine ro_qe (va_runV (As := [.int p1]) (rest := []) ⟨hx, hb, hml, hown, hts⟩ (kX8_find_F l G h0 qb d0 qs m0 f0 bc_ RB p1 (by assumption) v_1 hv_1) (cwV 1 hts gX8_on_X8_find rfl rfl rfl (by decide +kernel) ⟨Nat.le_of_ble_eq_true rfl, Nat.le_of_ble_eq_true rfl⟩) (pvR (q0 := 0) 8 hK (hP.sub (ws' := (wXB G h0 qb d0 qs m0 m0 bc_ RB)) [0, 1] rfl) rfl rfl) rfl rfl hl.1 rfl (lv_room (Nat.le_of_ble_eq_true rfl)) dX8_on_2 ⟨Nat.le_of_ble_eq_true rfl, Nat.le_of_ble_eq_true rfl⟩) ?_
  refine lv_astore_n (lv' := [(3, .ref f0), (0, .ref h0), (1, .int p1), (2, .int p2)]) hx hb dX8_on_5 rfl hl (by decide) rfl (fun ls hl => ?_)
  refine lv_aload_n hx hb dX8_on_6 rfl (lv_at hl 0 rfl) ?_
  refine lv_ifnull hx hb dX8_on_7 ?_
  refine lv_iload_n hx hb dX8_on_10 rfl (lv_at hl 3 rfl) ?_
  refine lv_if_lt (tgt := 25) hx hb dX8_on_11 (by decide) (fun c_2 => ?_) (fun c_2 => ?_)
  · replace hF := it_p c_2 hF
    refine lv_iconst (v := (-1)) hx hb dX8_on_25 (by decide) ?_
    exact W.iret (v := (-1)) hx hb hr  (fun t ht hW => ⟨(-1), rfl, (so_e hF), ht⟩) (fun q h => absurd h List.not_mem_nil) dX8_on_26
  · replace hF := it_n c_2 hF
    refine lv_iload_n hx hb dX8_on_14 rfl (lv_at hl 3 rfl) ?_
    refine lv_aload_n hx hb dX8_on_15 rfl (lv_at hl 0 rfl) ?_
    refine va_get (ci := 0) (v := .ref s0) (C := RX0) (T := TX0) (N := 9) hx hb hts hin0 hown hK hP 2 rfl rfl 3 (by decide) hfl103 (fun _ h9 => h9) rfl dX8_on_16 ?_
    refine va_get (ci := 1) (v := .int ss) (C := RX1) (T := TX1) (N := 5) hx hb hts hin1 hown hK hP 7 rfl rfl 4 (by decide) hfl107 (fun _ h9 => h9) rfl dX8_on_19 ?_
    refine lv_icmp_lt (tgt := 27) hx hb dX8_on_22 (by decide) (fun c_3 => ?_) (fun c_3 => ?_)
    · replace hF := it_p c_3 hF
      refine lv_aload_n hx hb dX8_on_27 rfl (lv_at hl 0 rfl) ?_
      refine lv_iload_n hx hb dX8_on_28 rfl (lv_at hl 3 rfl) ?_
      obtain ⟨v_4, hv_4, hF⟩ := bd_s hF
      refine ro_ie (va_runV (As := [.int p2]) (rest := []) ⟨hx, hb, hml, hown, hts⟩ (kX0_cornersOn l G f0 c0 cx cy cz s0 sa sb sc se b0 al ag aw nc ns fl mo og cs CX CY CZ ss SA SB SC SE p2 v_4 hv_4) (cwV 1 hts gX8_on_X0_cornersOn rfl rfl rfl (by decide +kernel) ⟨Nat.le_of_ble_eq_true rfl, Nat.le_of_ble_eq_true rfl⟩) (pvR (q0 := 0) 0 hK (hP.sub (ws' := (wBdC G f0 c0 cx cy cz s0 sa sb sc se b0 al ag aw nc ns fl mo og cs CX CY CZ ss SA SB SC SE)) [2, 3, 4, 5, 6, 7, 8, 9, 10, 11] rfl) rfl rfl) rfl rfl hl.1 rfl (lv_room (Nat.le_of_ble_eq_true rfl)) dX8_on_29 ⟨Nat.le_of_ble_eq_true rfl, Nat.le_of_ble_eq_true rfl⟩) ?_
      exact W.iret (v := v_4) hx hb hr  (fun t ht hW => ⟨v_4, rfl, (so_e hF), ht⟩) (fun q h => absurd h List.not_mem_nil) dX8_on_32
    · replace hF := it_n c_3 hF
      refine lv_iconst (v := (-1)) hx hb dX8_on_25 (by decide) ?_
      exact W.iret (v := (-1)) hx hb hr  (fun t ht hW => ⟨(-1), rfl, (so_e hF), ht⟩) (fun q h => absurd h List.not_mem_nil) dX8_on_26
def fX8_has_N (bc_ : Int32) (p1 : Int32) (p2 : Int32) (p3 : Int32) (p4 : Int32) (p5 : Int32) : Option (Int32) :=
  (bd (fX8_find_N bc_ p1) (fun v_1 => (some (-1))))
abbrev rX8_has_N : Room := { frames := 1, cells := 0, slots := 0, locals := 21 }
set_option maxHeartbeats 40000000 in
set_option maxRecDepth 100000 in
theorem kX8_has_N (l : Launch) (G : GT) (h0 qb d0 qs m0 : Nat) (bc_ : Int32) (RB : Nat → Option Nat) (p1 : Int32) (p2 : Int32) (p3 : Int32) (p4 : Int32) (p5 : Int32) (res : Int32) (hF : fX8_has_N bc_ p1 p2 p3 p4 p5 = some res) : Met l yX8_has wsX8_has rX8_has_N (va_Pc [.ref h0, .int p1, .int p2, .int p3, .int p4, .int p5] (pR G (wXBn G h0 qb d0 qs m0 bc_ RB))) (vp_Si (fun r => r = res)) 0 0 (fun _ => False) := by
  refine Met.ofW (cc := cX8_has) (maxL := 7) (ret := (some .int)) (by decide) rfl ?_
  intro p e s m args below meth c s₁ B hml hv
  obtain ⟨rfl, hP, hK⟩ := hv
  have hx := B.exec
  have hb := B.bytes
  have hr := B.returns
  have hts := atoms_spec (ws := wsX8_has) B.pre
  have hown : s.vm.findClass RX8 = some m.cls := findClass_of_methodNamed B.named
  have hlocks := B.notSynchronized
  have hl := lv_entry ([.ref h0, .int p1, .int p2, .int p3, .int p4, .int p5]) (n := 7) (Nat.le_of_ble_eq_true rfl)
  rw [lg_entry_eq]
  generalize (lg_sl ([.ref h0, .int p1, .int p2, .int p3, .int p4, .int p5]) ++ List.replicate (7 - (lg_sl ([.ref h0, .int p1, .int p2, .int p3, .int p4, .int p5])).length) Slot.unset).toArray = ls at hl ⊢
  have hl : lv_has ls 7 [(0, .ref h0), (1, .int p1), (2, .int p2), (3, .int p3), (4, .int p4), (5, .int p5)] := hl
  unfold fX8_has_N at hF
  refine lv_aload_n hx hb dX8_has_0 rfl (lv_at hl 0 rfl) ?_
  refine lv_iload_n hx hb dX8_has_1 rfl (lv_at hl 1 rfl) ?_
  obtain ⟨v_1, hv_1, hF⟩ := bd_s hF
  refine ro_qe (va_runV (As := [.int p1]) (rest := []) ⟨hx, hb, hml, hown, hts⟩ (kX8_find_N l G h0 qb d0 qs m0 bc_ RB p1 v_1 hv_1) (cwV 1 hts gX8_has_X8_find rfl rfl rfl (by decide +kernel) ⟨Nat.le_of_ble_eq_true rfl, Nat.le_of_ble_eq_true rfl⟩) (pvR (q0 := 0) 8 hK (hP.sub (ws' := (wXBn G h0 qb d0 qs m0 bc_ RB)) [0, 1] rfl) rfl rfl) rfl rfl hl.1 rfl (lv_room (Nat.le_of_ble_eq_true rfl)) dX8_has_2 ⟨Nat.le_of_ble_eq_true rfl, Nat.le_of_ble_eq_true rfl⟩) ?_
  refine lv_astoreN (lv' := [(6, .null), (0, .ref h0), (1, .int p1), (2, .int p2), (3, .int p3), (4, .int p4), (5, .int p5)]) hx hb dX8_has_5 hl (by decide) rfl (fun ls hl => ?_)
  refine lv_aloadN hx hb dX8_has_7 (lv_at hl 0 rfl) ?_
  refine lv_ifnullN (tgt := 26) hx hb dX8_has_9 (by decide) ?_
  refine lv_iconst (v := (-1)) hx hb dX8_has_26 (by decide) ?_
  exact W.iret (v := (-1)) hx hb hr  (fun t ht hW => ⟨(-1), rfl, (so_e hF), ht⟩) (fun q h => absurd h List.not_mem_nil) dX8_has_27
def fX8_has_F (ns : Nat) (nb : Nat) (bc_ : Int32) (ss : Int32) (SA : Nat → Int32) (SB : Nat → Int32) (SC : Nat → Int32) (SE : Nat → Int32) (bs : Int32) (BA : Nat → Int32) (BB : Nat → Int32) (BC : Nat → Int32) (BD : Nat → Int32) (p1 : Int32) (p2 : Int32) (p3 : Int32) (p4 : Int32) (p5 : Int32) : Option (Int32) :=
  (bd (fX8_find_F bc_ p1) (fun v_1 => (if p5 < 1 then (some (-1)) else (if p5 ≤ 1000 then (bd (fX8_isAmong p2.toInt64 100000) (fun v_4 => (if v_4 = 0 then (some (-1)) else (bd (fX8_isAmong p3.toInt64 100000) (fun v_7 => (if v_7 = 0 then (some (-1)) else (bd (fX8_isAmong p4.toInt64 100000) (fun v_10 => (if v_10 = 0 then (some (-1)) else (bd (fX0_placeOf ns nb ss SA SB SC SE bs BA BB BC BD p2 p3 p4 p5) (fun v_13 => (some v_13)))))))))))) else (some (-1))))))
abbrev rX8_has_F : Room := { frames := 2, cells := 0, slots := 0, locals := 57 }
set_option maxHeartbeats 40000000 in
set_option maxRecDepth 100000 in
theorem kX8_has_F (l : Launch) (G : GT) (h0 qb f0 c0 cx cy cz s0 sa sb sc se b0 ba bb bc be al ag d0 qs m0 aw : Nat) (nc ns nb : Nat) (bc_ : Int32) (RB : Nat → Option Nat) (fl : Int32) (mo : Int32) (og : Option Nat) (cs : Int32) (CX : Nat → Int32) (CY : Nat → Int32) (CZ : Nat → Int32) (ss : Int32) (SA : Nat → Int32) (SB : Nat → Int32) (SC : Nat → Int32) (SE : Nat → Int32) (bs : Int32) (BA : Nat → Int32) (BB : Nat → Int32) (BC : Nat → Int32) (BD : Nat → Int32) (LL : Nat → Int32) (GG : Nat → Int32) (p1 : Int32) (p2 : Int32) (p3 : Int32) (p4 : Int32) (p5 : Int32) (hq : RB p1.toNatClampNeg = some f0) (res : Int32) (hF : fX8_has_F ns nb bc_ ss SA SB SC SE bs BA BB BC BD p1 p2 p3 p4 p5 = some res) : Met l yX8_has wsX8_has rX8_has_F (va_Pc [.ref h0, .int p1, .int p2, .int p3, .int p4, .int p5] (pR G (wXF G h0 qb f0 c0 cx cy cz s0 sa sb sc se b0 ba bb bc be al ag d0 qs m0 aw nc ns nb bc_ RB fl mo og cs CX CY CZ ss SA SB SC SE bs BA BB BC BD LL GG))) (vp_Si (fun r => r = res)) 0 0 (fun _ => False) := by
  refine Met.ofW (cc := cX8_has) (maxL := 7) (ret := (some .int)) (by decide) rfl ?_
  intro p e s m args below meth c s₁ B hml hv
  obtain ⟨rfl, hP, hK⟩ := hv
  have hx := B.exec
  have hb := B.bytes
  have hr := B.returns
  have hts := atoms_spec (ws := wsX8_has) B.pre
  have hown : s.vm.findClass RX8 = some m.cls := findClass_of_methodNamed B.named
  have hlocks := B.notSynchronized
  have hcn128 := hts (.constant RX8 128 (100000)) (by decide +kernel)
  have hl := lv_entry ([.ref h0, .int p1, .int p2, .int p3, .int p4, .int p5]) (n := 7) (Nat.le_of_ble_eq_true rfl)
  rw [lg_entry_eq]
  generalize (lg_sl ([.ref h0, .int p1, .int p2, .int p3, .int p4, .int p5]) ++ List.replicate (7 - (lg_sl ([.ref h0, .int p1, .int p2, .int p3, .int p4, .int p5])).length) Slot.unset).toArray = ls at hl ⊢
  have hl : lv_has ls 7 [(0, .ref h0), (1, .int p1), (2, .int p2), (3, .int p3), (4, .int p4), (5, .int p5)] := hl
  unfold fX8_has_F at hF
  refine lv_aload_n hx hb dX8_has_0 rfl (lv_at hl 0 rfl) ?_
  refine lv_iload_n hx hb dX8_has_1 rfl (lv_at hl 1 rfl) ?_
  obtain ⟨v_1, hv_1, hF⟩ := bd_s hF
  refine ro_qe (va_runV (As := [.int p1]) (rest := []) ⟨hx, hb, hml, hown, hts⟩ (kX8_find_F l G h0 qb d0 qs m0 f0 bc_ RB p1 (by assumption) v_1 hv_1) (cwV 1 hts gX8_has_X8_find rfl rfl rfl (by decide +kernel) ⟨Nat.le_of_ble_eq_true rfl, Nat.le_of_ble_eq_true rfl⟩) (pvR (q0 := 0) 8 hK (hP.sub (ws' := (wXB G h0 qb d0 qs m0 m0 bc_ RB)) [0, 1] rfl) rfl rfl) rfl rfl hl.1 rfl (lv_room (Nat.le_of_ble_eq_true rfl)) dX8_has_2 ⟨Nat.le_of_ble_eq_true rfl, Nat.le_of_ble_eq_true rfl⟩) ?_
  refine lv_astore (lv' := [(6, .ref f0), (0, .ref h0), (1, .int p1), (2, .int p2), (3, .int p3), (4, .int p4), (5, .int p5)]) hx hb dX8_has_5 hl (by decide) rfl (fun ls hl => ?_)
  refine lv_aload hx hb dX8_has_7 (lv_at hl 0 rfl) ?_
  refine lv_ifnull hx hb dX8_has_9 ?_
  refine lv_iload hx hb dX8_has_12 (lv_at hl 6 rfl) ?_
  refine lv_iconst (v := 1) hx hb dX8_has_14 (by decide) ?_
  refine lv_icmp_lt (tgt := 26) hx hb dX8_has_15 (by decide) (fun c_2 => ?_) (fun c_2 => ?_)
  · replace hF := it_p c_2 hF
    refine lv_iconst (v := (-1)) hx hb dX8_has_26 (by decide) ?_
    exact W.iret (v := (-1)) hx hb hr  (fun t ht hW => ⟨(-1), rfl, (so_e hF), ht⟩) (fun q h => absurd h List.not_mem_nil) dX8_has_27
  · replace hF := it_n c_2 hF
    refine lv_iload hx hb dX8_has_18 (lv_at hl 6 rfl) ?_
    refine lv_sipush (v := 1000) hx hb dX8_has_20 (by decide) ?_
    refine lv_icmp_le (tgt := 28) hx hb dX8_has_23 (by decide) (fun c_3 => ?_) (fun c_3 => ?_)
    · replace hF := it_p c_3 hF
      refine lv_iload_n hx hb dX8_has_28 rfl (lv_at hl 3 rfl) ?_
      refine lv_i2l hx hb dX8_has_29 rfl ?_
      refine lv_ldc (v := 100000) hx hb hown hcn128 dX8_has_30 ?_
      obtain ⟨v_4, hv_4, hF⟩ := bd_s hF
      refine ro_ze (va_runS (As := [.long p2.toInt64, .int 100000]) (rest := []) ⟨hx, hb, hml, hown, hts⟩ (kX8_isAmong l G p2.toInt64 100000 v_4 hv_4) (va_cwS 2 hts gX8_has_X8_isAmong rfl rfl rfl (by decide +kernel) ⟨Nat.le_of_ble_eq_true rfl, Nat.le_of_ble_eq_true rfl⟩) (psR hK (hP.sub (ws' := ([] : va_W)) [] rfl)) rfl rfl hl.1 rfl (lv_room (Nat.le_of_ble_eq_true rfl)) dX8_has_32 ⟨Nat.le_of_ble_eq_true rfl, Nat.le_of_ble_eq_true rfl⟩) (fun hb_5 => ?_)
      refine lv_if_eq (tgt := 59) hx hb dX8_has_35 (by decide) (fun c_6 => ?_) (fun c_6 => ?_)
      · replace hF := it_p c_6 hF
        refine lv_iconst (v := (-1)) hx hb dX8_has_59 (by decide) ?_
        exact W.iret (v := (-1)) hx hb hr  (fun t ht hW => ⟨(-1), rfl, (so_e hF), ht⟩) (fun q h => absurd h List.not_mem_nil) dX8_has_60
      · replace hF := it_n c_6 hF
        refine lv_iload_n hx hb dX8_has_38 rfl (lv_at hl 4 rfl) ?_
        refine lv_i2l hx hb dX8_has_39 rfl ?_
        refine lv_ldc (v := 100000) hx hb hown hcn128 dX8_has_40 ?_
        obtain ⟨v_7, hv_7, hF⟩ := bd_s hF
        refine ro_ze (va_runS (As := [.long p3.toInt64, .int 100000]) (rest := []) ⟨hx, hb, hml, hown, hts⟩ (kX8_isAmong l G p3.toInt64 100000 v_7 hv_7) (va_cwS 2 hts gX8_has_X8_isAmong rfl rfl rfl (by decide +kernel) ⟨Nat.le_of_ble_eq_true rfl, Nat.le_of_ble_eq_true rfl⟩) (psR hK (hP.sub (ws' := ([] : va_W)) [] rfl)) rfl rfl hl.1 rfl (lv_room (Nat.le_of_ble_eq_true rfl)) dX8_has_42 ⟨Nat.le_of_ble_eq_true rfl, Nat.le_of_ble_eq_true rfl⟩) (fun hb_8 => ?_)
        refine lv_if_eq (tgt := 59) hx hb dX8_has_45 (by decide) (fun c_9 => ?_) (fun c_9 => ?_)
        · replace hF := it_p c_9 hF
          refine lv_iconst (v := (-1)) hx hb dX8_has_59 (by decide) ?_
          exact W.iret (v := (-1)) hx hb hr  (fun t ht hW => ⟨(-1), rfl, (so_e hF), ht⟩) (fun q h => absurd h List.not_mem_nil) dX8_has_60
        · replace hF := it_n c_9 hF
          refine lv_iload hx hb dX8_has_48 (lv_at hl 5 rfl) ?_
          refine lv_i2l hx hb dX8_has_50 rfl ?_
          refine lv_ldc (v := 100000) hx hb hown hcn128 dX8_has_51 ?_
          obtain ⟨v_10, hv_10, hF⟩ := bd_s hF
          refine ro_ze (va_runS (As := [.long p4.toInt64, .int 100000]) (rest := []) ⟨hx, hb, hml, hown, hts⟩ (kX8_isAmong l G p4.toInt64 100000 v_10 hv_10) (va_cwS 2 hts gX8_has_X8_isAmong rfl rfl rfl (by decide +kernel) ⟨Nat.le_of_ble_eq_true rfl, Nat.le_of_ble_eq_true rfl⟩) (psR hK (hP.sub (ws' := ([] : va_W)) [] rfl)) rfl rfl hl.1 rfl (lv_room (Nat.le_of_ble_eq_true rfl)) dX8_has_53 ⟨Nat.le_of_ble_eq_true rfl, Nat.le_of_ble_eq_true rfl⟩) (fun hb_11 => ?_)
          refine lv_if_ne (tgt := 61) hx hb dX8_has_56 (by decide) (fun c_12 => ?_) (fun c_12 => ?_)
          · replace hF := it_n c_12 hF
            refine lv_aload hx hb dX8_has_61 (lv_at hl 0 rfl) ?_
            refine lv_iload_n hx hb dX8_has_63 rfl (lv_at hl 3 rfl) ?_
            refine lv_iload_n hx hb dX8_has_64 rfl (lv_at hl 4 rfl) ?_
            refine lv_iload hx hb dX8_has_65 (lv_at hl 5 rfl) ?_
            refine lv_iload hx hb dX8_has_67 (lv_at hl 6 rfl) ?_
            obtain ⟨v_13, hv_13, hF⟩ := bd_s hF
            refine ro_ie (va_runV (As := [.int p2, .int p3, .int p4, .int p5]) (rest := []) ⟨hx, hb, hml, hown, hts⟩ (kX0_placeOf l G f0 s0 sa sb sc se b0 ba bb bc be c0 al ag aw ns nb fl mo og ss SA SB SC SE bs BA BB BC BD p2 p3 p4 p5 v_13 hv_13) (cwV 4 hts gX8_has_X0_placeOf rfl rfl rfl (by decide +kernel) ⟨Nat.le_of_ble_eq_true rfl, Nat.le_of_ble_eq_true rfl⟩) (pvR (q0 := 0) 0 hK (hP.sub (ws' := (wBdS G f0 s0 sa sb sc se b0 ba bb bc be c0 al ag aw ns nb fl mo og ss SA SB SC SE bs BA BB BC BD)) [2, 7, 8, 9, 10, 11, 12, 13, 14, 15, 16] rfl) rfl rfl) rfl rfl hl.1 rfl (lv_room (Nat.le_of_ble_eq_true rfl)) dX8_has_69 ⟨Nat.le_of_ble_eq_true rfl, Nat.le_of_ble_eq_true rfl⟩) ?_
            exact W.iret (v := v_13) hx hb hr  (fun t ht hW => ⟨v_13, rfl, (so_e hF), ht⟩) (fun q h => absurd h List.not_mem_nil) dX8_has_72
          · replace hF := it_p c_12 hF
            refine lv_iconst (v := (-1)) hx hb dX8_has_59 (by decide) ?_
            exact W.iret (v := (-1)) hx hb hr  (fun t ht hW => ⟨(-1), rfl, (so_e hF), ht⟩) (fun q h => absurd h List.not_mem_nil) dX8_has_60
    · replace hF := it_n c_3 hF
      refine lv_iconst (v := (-1)) hx hb dX8_has_26 (by decide) ?_
      exact W.iret (v := (-1)) hx hb hr  (fun t ht hW => ⟨(-1), rfl, (so_e hF), ht⟩) (fun q h => absurd h List.not_mem_nil) dX8_has_27
def fX8_most_N (bc_ : Int32) (p1 : Int32) (p2 : Int32) (p3 : Int32) (p4 : Int32) (p5 : Int32) : Option (Int32) :=
  (bd (fX8_find_N bc_ p1) (fun v_1 => (some (-1000000))))
abbrev rX8_most_N : Room := { frames := 1, cells := 0, slots := 0, locals := 21 }
set_option maxHeartbeats 40000000 in
set_option maxRecDepth 100000 in
theorem kX8_most_N (l : Launch) (G : GT) (h0 qb d0 qs m0 : Nat) (bc_ : Int32) (RB : Nat → Option Nat) (p1 : Int32) (p2 : Int32) (p3 : Int32) (p4 : Int32) (p5 : Int32) (res : Int32) (hF : fX8_most_N bc_ p1 p2 p3 p4 p5 = some res) : Met l yX8_most wsX8_most rX8_most_N (va_Pc [.ref h0, .int p1, .int p2, .int p3, .int p4, .int p5] (pR G (wXBn G h0 qb d0 qs m0 bc_ RB))) (vp_Si (fun r => r = res)) 0 0 (fun _ => False) := by
  refine Met.ofW (cc := cX8_most) (maxL := 7) (ret := (some .int)) (by decide) rfl ?_
  intro p e s m args below meth c s₁ B hml hv
  obtain ⟨rfl, hP, hK⟩ := hv
  have hx := B.exec
  have hb := B.bytes
  have hr := B.returns
  have hts := atoms_spec (ws := wsX8_most) B.pre
  have hown : s.vm.findClass RX8 = some m.cls := findClass_of_methodNamed B.named
  have hlocks := B.notSynchronized
  have hcn150 := hts (.constant RX8 150 (-1000000)) (by decide +kernel)
  have hl := lv_entry ([.ref h0, .int p1, .int p2, .int p3, .int p4, .int p5]) (n := 7) (Nat.le_of_ble_eq_true rfl)
  rw [lg_entry_eq]
  generalize (lg_sl ([.ref h0, .int p1, .int p2, .int p3, .int p4, .int p5]) ++ List.replicate (7 - (lg_sl ([.ref h0, .int p1, .int p2, .int p3, .int p4, .int p5])).length) Slot.unset).toArray = ls at hl ⊢
  have hl : lv_has ls 7 [(0, .ref h0), (1, .int p1), (2, .int p2), (3, .int p3), (4, .int p4), (5, .int p5)] := hl
  unfold fX8_most_N at hF
  refine lv_aload_n hx hb dX8_most_0 rfl (lv_at hl 0 rfl) ?_
  refine lv_iload_n hx hb dX8_most_1 rfl (lv_at hl 1 rfl) ?_
  obtain ⟨v_1, hv_1, hF⟩ := bd_s hF
  refine ro_qe (va_runV (As := [.int p1]) (rest := []) ⟨hx, hb, hml, hown, hts⟩ (kX8_find_N l G h0 qb d0 qs m0 bc_ RB p1 v_1 hv_1) (cwV 1 hts gX8_most_X8_find rfl rfl rfl (by decide +kernel) ⟨Nat.le_of_ble_eq_true rfl, Nat.le_of_ble_eq_true rfl⟩) (pvR (q0 := 0) 8 hK (hP.sub (ws' := (wXBn G h0 qb d0 qs m0 bc_ RB)) [0, 1] rfl) rfl rfl) rfl rfl hl.1 rfl (lv_room (Nat.le_of_ble_eq_true rfl)) dX8_most_2 ⟨Nat.le_of_ble_eq_true rfl, Nat.le_of_ble_eq_true rfl⟩) ?_
  refine lv_astoreN (lv' := [(6, .null), (0, .ref h0), (1, .int p1), (2, .int p2), (3, .int p3), (4, .int p4), (5, .int p5)]) hx hb dX8_most_5 hl (by decide) rfl (fun ls hl => ?_)
  refine lv_aloadN hx hb dX8_most_7 (lv_at hl 0 rfl) ?_
  refine lv_ifnonnullN hx hb dX8_most_9 ?_
  refine lv_ldc (v := (-1000000)) hx hb hown hcn150 dX8_most_12 ?_
  exact W.iret (v := (-1000000)) hx hb hr  (fun t ht hW => ⟨(-1000000), rfl, (so_e hF), ht⟩) (fun q h => absurd h List.not_mem_nil) dX8_most_14
def fX8_most_F (nc : Nat) (bc_ : Int32) (cs : Int32) (CX : Nat → Int32) (CY : Nat → Int32) (CZ : Nat → Int32) (p1 : Int32) (p2 : Int32) (p3 : Int32) (p4 : Int32) (p5 : Int32) : Option (Int32) :=
  (bd (fX8_find_F bc_ p1) (fun v_1 => (bd (fX8_isAmong p2.toInt64 100) (fun v_2 => (if v_2 = 0 then (some (-1000000)) else (bd (fX8_isAmong p3.toInt64 100) (fun v_5 => (if v_5 = 0 then (some (-1000000)) else (bd (fX8_isAmong p4.toInt64 100) (fun v_8 => (if v_8 = 0 then (some (-1000000)) else (if p5 = 0 then (bd (fX0_greatestOf nc cs CX CY CZ (-p2) (-p3) (-p4)) (fun v_12 => (some (-v_12)))) else (bd (fX0_greatestOf nc cs CX CY CZ p2 p3 p4) (fun v_13 => (some v_13)))))))))))))))
abbrev rX8_most_F : Room := { frames := 2, cells := 0, slots := 0, locals := 46 }
set_option maxHeartbeats 40000000 in
set_option maxRecDepth 100000 in
theorem kX8_most_F (l : Launch) (G : GT) (h0 qb f0 c0 cx cy cz s0 sa sb sc se b0 ba bb bc be al ag d0 qs m0 aw : Nat) (nc ns nb : Nat) (bc_ : Int32) (RB : Nat → Option Nat) (fl : Int32) (mo : Int32) (og : Option Nat) (cs : Int32) (CX : Nat → Int32) (CY : Nat → Int32) (CZ : Nat → Int32) (ss : Int32) (SA : Nat → Int32) (SB : Nat → Int32) (SC : Nat → Int32) (SE : Nat → Int32) (bs : Int32) (BA : Nat → Int32) (BB : Nat → Int32) (BC : Nat → Int32) (BD : Nat → Int32) (LL : Nat → Int32) (GG : Nat → Int32) (p1 : Int32) (p2 : Int32) (p3 : Int32) (p4 : Int32) (p5 : Int32) (hq : RB p1.toNatClampNeg = some f0) (res : Int32) (hF : fX8_most_F nc bc_ cs CX CY CZ p1 p2 p3 p4 p5 = some res) : Met l yX8_most wsX8_most rX8_most_F (va_Pc [.ref h0, .int p1, .int p2, .int p3, .int p4, .int p5] (pR G (wXF G h0 qb f0 c0 cx cy cz s0 sa sb sc se b0 ba bb bc be al ag d0 qs m0 aw nc ns nb bc_ RB fl mo og cs CX CY CZ ss SA SB SC SE bs BA BB BC BD LL GG))) (vp_Si (fun r => r = res)) 0 0 (fun _ => False) := by
  refine Met.ofW (cc := cX8_most) (maxL := 7) (ret := (some .int)) (by decide) rfl ?_
  intro p e s m args below meth c s₁ B hml hv
  obtain ⟨rfl, hP, hK⟩ := hv
  have hx := B.exec
  have hb := B.bytes
  have hr := B.returns
  have hts := atoms_spec (ws := wsX8_most) B.pre
  have hown : s.vm.findClass RX8 = some m.cls := findClass_of_methodNamed B.named
  have hlocks := B.notSynchronized
  have hcn150 := hts (.constant RX8 150 (-1000000)) (by decide +kernel)
  have hl := lv_entry ([.ref h0, .int p1, .int p2, .int p3, .int p4, .int p5]) (n := 7) (Nat.le_of_ble_eq_true rfl)
  rw [lg_entry_eq]
  generalize (lg_sl ([.ref h0, .int p1, .int p2, .int p3, .int p4, .int p5]) ++ List.replicate (7 - (lg_sl ([.ref h0, .int p1, .int p2, .int p3, .int p4, .int p5])).length) Slot.unset).toArray = ls at hl ⊢
  have hl : lv_has ls 7 [(0, .ref h0), (1, .int p1), (2, .int p2), (3, .int p3), (4, .int p4), (5, .int p5)] := hl
  unfold fX8_most_F at hF
  refine lv_aload_n hx hb dX8_most_0 rfl (lv_at hl 0 rfl) ?_
  refine lv_iload_n hx hb dX8_most_1 rfl (lv_at hl 1 rfl) ?_
  obtain ⟨v_1, hv_1, hF⟩ := bd_s hF
  refine ro_qe (va_runV (As := [.int p1]) (rest := []) ⟨hx, hb, hml, hown, hts⟩ (kX8_find_F l G h0 qb d0 qs m0 f0 bc_ RB p1 (by assumption) v_1 hv_1) (cwV 1 hts gX8_most_X8_find rfl rfl rfl (by decide +kernel) ⟨Nat.le_of_ble_eq_true rfl, Nat.le_of_ble_eq_true rfl⟩) (pvR (q0 := 0) 8 hK (hP.sub (ws' := (wXB G h0 qb d0 qs m0 m0 bc_ RB)) [0, 1] rfl) rfl rfl) rfl rfl hl.1 rfl (lv_room (Nat.le_of_ble_eq_true rfl)) dX8_most_2 ⟨Nat.le_of_ble_eq_true rfl, Nat.le_of_ble_eq_true rfl⟩) ?_
  refine lv_astore (lv' := [(6, .ref f0), (0, .ref h0), (1, .int p1), (2, .int p2), (3, .int p3), (4, .int p4), (5, .int p5)]) hx hb dX8_most_5 hl (by decide) rfl (fun ls hl => ?_)
  refine lv_aload hx hb dX8_most_7 (lv_at hl 0 rfl) ?_
  refine lv_ifnonnull (tgt := 15) hx hb dX8_most_9 (by decide) ?_
  refine lv_iload_n hx hb dX8_most_15 rfl (lv_at hl 3 rfl) ?_
  refine lv_i2l hx hb dX8_most_16 rfl ?_
  refine lv_bipush (v := 100) hx hb dX8_most_17 (by decide) ?_
  obtain ⟨v_2, hv_2, hF⟩ := bd_s hF
  refine ro_ze (va_runS (As := [.long p2.toInt64, .int 100]) (rest := []) ⟨hx, hb, hml, hown, hts⟩ (kX8_isAmong l G p2.toInt64 100 v_2 hv_2) (va_cwS 2 hts gX8_most_X8_isAmong rfl rfl rfl (by decide +kernel) ⟨Nat.le_of_ble_eq_true rfl, Nat.le_of_ble_eq_true rfl⟩) (psR hK (hP.sub (ws' := ([] : va_W)) [] rfl)) rfl rfl hl.1 rfl (lv_room (Nat.le_of_ble_eq_true rfl)) dX8_most_19 ⟨Nat.le_of_ble_eq_true rfl, Nat.le_of_ble_eq_true rfl⟩) (fun hb_3 => ?_)
  refine lv_if_eq (tgt := 46) hx hb dX8_most_22 (by decide) (fun c_4 => ?_) (fun c_4 => ?_)
  · replace hF := it_p c_4 hF
    refine lv_ldc (v := (-1000000)) hx hb hown hcn150 dX8_most_46 ?_
    exact W.iret (v := (-1000000)) hx hb hr  (fun t ht hW => ⟨(-1000000), rfl, (so_e hF), ht⟩) (fun q h => absurd h List.not_mem_nil) dX8_most_48
  · replace hF := it_n c_4 hF
    refine lv_iload_n hx hb dX8_most_25 rfl (lv_at hl 4 rfl) ?_
    refine lv_i2l hx hb dX8_most_26 rfl ?_
    refine lv_bipush (v := 100) hx hb dX8_most_27 (by decide) ?_
    obtain ⟨v_5, hv_5, hF⟩ := bd_s hF
    refine ro_ze (va_runS (As := [.long p3.toInt64, .int 100]) (rest := []) ⟨hx, hb, hml, hown, hts⟩ (kX8_isAmong l G p3.toInt64 100 v_5 hv_5) (va_cwS 2 hts gX8_most_X8_isAmong rfl rfl rfl (by decide +kernel) ⟨Nat.le_of_ble_eq_true rfl, Nat.le_of_ble_eq_true rfl⟩) (psR hK (hP.sub (ws' := ([] : va_W)) [] rfl)) rfl rfl hl.1 rfl (lv_room (Nat.le_of_ble_eq_true rfl)) dX8_most_29 ⟨Nat.le_of_ble_eq_true rfl, Nat.le_of_ble_eq_true rfl⟩) (fun hb_6 => ?_)
    refine lv_if_eq (tgt := 46) hx hb dX8_most_32 (by decide) (fun c_7 => ?_) (fun c_7 => ?_)
    · replace hF := it_p c_7 hF
      refine lv_ldc (v := (-1000000)) hx hb hown hcn150 dX8_most_46 ?_
      exact W.iret (v := (-1000000)) hx hb hr  (fun t ht hW => ⟨(-1000000), rfl, (so_e hF), ht⟩) (fun q h => absurd h List.not_mem_nil) dX8_most_48
    · replace hF := it_n c_7 hF
      refine lv_iload hx hb dX8_most_35 (lv_at hl 5 rfl) ?_
      refine lv_i2l hx hb dX8_most_37 rfl ?_
      refine lv_bipush (v := 100) hx hb dX8_most_38 (by decide) ?_
      obtain ⟨v_8, hv_8, hF⟩ := bd_s hF
      refine ro_ze (va_runS (As := [.long p4.toInt64, .int 100]) (rest := []) ⟨hx, hb, hml, hown, hts⟩ (kX8_isAmong l G p4.toInt64 100 v_8 hv_8) (va_cwS 2 hts gX8_most_X8_isAmong rfl rfl rfl (by decide +kernel) ⟨Nat.le_of_ble_eq_true rfl, Nat.le_of_ble_eq_true rfl⟩) (psR hK (hP.sub (ws' := ([] : va_W)) [] rfl)) rfl rfl hl.1 rfl (lv_room (Nat.le_of_ble_eq_true rfl)) dX8_most_40 ⟨Nat.le_of_ble_eq_true rfl, Nat.le_of_ble_eq_true rfl⟩) (fun hb_9 => ?_)
      refine lv_if_ne (tgt := 49) hx hb dX8_most_43 (by decide) (fun c_10 => ?_) (fun c_10 => ?_)
      · replace hF := it_n c_10 hF
        refine lv_iload hx hb dX8_most_49 (lv_at hl 6 rfl) ?_
        refine lv_if_eq (tgt := 66) hx hb dX8_most_51 (by decide) (fun c_11 => ?_) (fun c_11 => ?_)
        · replace hF := it_p c_11 hF
          refine lv_aload hx hb dX8_most_66 (lv_at hl 0 rfl) ?_
          refine lv_iload_n hx hb dX8_most_68 rfl (lv_at hl 3 rfl) ?_
          refine lv_ineg hx hb dX8_most_69 ?_
          refine lv_iload_n hx hb dX8_most_70 rfl (lv_at hl 4 rfl) ?_
          refine lv_ineg hx hb dX8_most_71 ?_
          refine lv_iload hx hb dX8_most_72 (lv_at hl 5 rfl) ?_
          refine lv_ineg hx hb dX8_most_74 ?_
          obtain ⟨v_12, hv_12, hF⟩ := bd_s hF
          refine ro_ie (va_runV (As := [.int (-p2), .int (-p3), .int (-p4)]) (rest := []) ⟨hx, hb, hml, hown, hts⟩ (kX0_greatestOf l G f0 c0 cx cy cz s0 b0 al ag aw nc fl mo og cs CX CY CZ (-p2) (-p3) (-p4) v_12 hv_12) (cwV 3 hts gX8_most_X0_greatestOf rfl rfl rfl (by decide +kernel) ⟨Nat.le_of_ble_eq_true rfl, Nat.le_of_ble_eq_true rfl⟩) (pvR (q0 := 0) 0 hK (hP.sub (ws' := (wBdG G f0 c0 cx cy cz s0 b0 al ag aw nc fl mo og cs CX CY CZ)) [2, 3, 4, 5, 6] rfl) rfl rfl) rfl rfl hl.1 rfl (lv_room (Nat.le_of_ble_eq_true rfl)) dX8_most_75 ⟨Nat.le_of_ble_eq_true rfl, Nat.le_of_ble_eq_true rfl⟩) ?_
          refine lv_ineg hx hb dX8_most_78 ?_
          exact W.iret (v := -v_12) hx hb hr  (fun t ht hW => ⟨-v_12, rfl, (so_e hF), ht⟩) (fun q h => absurd h List.not_mem_nil) dX8_most_79
        · replace hF := it_n c_11 hF
          refine lv_aload hx hb dX8_most_54 (lv_at hl 0 rfl) ?_
          refine lv_iload_n hx hb dX8_most_56 rfl (lv_at hl 3 rfl) ?_
          refine lv_iload_n hx hb dX8_most_57 rfl (lv_at hl 4 rfl) ?_
          refine lv_iload hx hb dX8_most_58 (lv_at hl 5 rfl) ?_
          obtain ⟨v_13, hv_13, hF⟩ := bd_s hF
          refine ro_ie (va_runV (As := [.int p2, .int p3, .int p4]) (rest := []) ⟨hx, hb, hml, hown, hts⟩ (kX0_greatestOf l G f0 c0 cx cy cz s0 b0 al ag aw nc fl mo og cs CX CY CZ p2 p3 p4 v_13 hv_13) (cwV 3 hts gX8_most_X0_greatestOf rfl rfl rfl (by decide +kernel) ⟨Nat.le_of_ble_eq_true rfl, Nat.le_of_ble_eq_true rfl⟩) (pvR (q0 := 0) 0 hK (hP.sub (ws' := (wBdG G f0 c0 cx cy cz s0 b0 al ag aw nc fl mo og cs CX CY CZ)) [2, 3, 4, 5, 6] rfl) rfl rfl) rfl rfl hl.1 rfl (lv_room (Nat.le_of_ble_eq_true rfl)) dX8_most_60 ⟨Nat.le_of_ble_eq_true rfl, Nat.le_of_ble_eq_true rfl⟩) ?_
          refine lv_goto (tgt := 79) hx hb dX8_most_63 (by decide) ?_
          exact W.iret (v := v_13) hx hb hr  (fun t ht hW => ⟨v_13, rfl, (so_e hF), ht⟩) (fun q h => absurd h List.not_mem_nil) dX8_most_79
      · replace hF := it_p c_10 hF
        refine lv_ldc (v := (-1000000)) hx hb hown hcn150 dX8_most_46 ?_
        exact W.iret (v := (-1000000)) hx hb hr  (fun t ht hW => ⟨(-1000000), rfl, (so_e hF), ht⟩) (fun q h => absurd h List.not_mem_nil) dX8_most_48
def fX8_within_NN (bc_ : Int32) (p1 : Int32) (p2 : Int32) : Option (Int32) :=
  (bd (fX8_find_N bc_ p1) (fun v_1 => (bd (fX8_find_N bc_ p2) (fun v_2 => (some (-1))))))
abbrev rX8_within_NN : Room := { frames := 1, cells := 0, slots := 0, locals := 21 }
set_option maxHeartbeats 40000000 in
set_option maxRecDepth 100000 in
theorem kX8_within_NN (l : Launch) (G : GT) (h0 qb d0 qs m0 : Nat) (bc_ : Int32) (RB : Nat → Option Nat) (p1 : Int32) (p2 : Int32) (res : Int32) (hF : fX8_within_NN bc_ p1 p2 = some res) : Met l yX8_within wsX8_within rX8_within_NN (va_Pc [.ref h0, .int p1, .int p2] (pR G (wXBn G h0 qb d0 qs m0 bc_ RB))) (vp_Si (fun r => r = res)) 0 0 (fun _ => False) := by
  refine Met.ofW (cc := cX8_within) (maxL := 5) (ret := (some .int)) (by decide) rfl ?_
  intro p e s m args below meth c s₁ B hml hv
  obtain ⟨rfl, hP, hK⟩ := hv
  have hx := B.exec
  have hb := B.bytes
  have hr := B.returns
  have hts := atoms_spec (ws := wsX8_within) B.pre
  have hown : s.vm.findClass RX8 = some m.cls := findClass_of_methodNamed B.named
  have hlocks := B.notSynchronized
  have hl := lv_entry ([.ref h0, .int p1, .int p2]) (n := 5) (Nat.le_of_ble_eq_true rfl)
  rw [lg_entry_eq]
  generalize (lg_sl ([.ref h0, .int p1, .int p2]) ++ List.replicate (5 - (lg_sl ([.ref h0, .int p1, .int p2])).length) Slot.unset).toArray = ls at hl ⊢
  have hl : lv_has ls 5 [(0, .ref h0), (1, .int p1), (2, .int p2)] := hl
  unfold fX8_within_NN at hF
  refine lv_aload_n hx hb dX8_within_0 rfl (lv_at hl 0 rfl) ?_
  refine lv_iload_n hx hb dX8_within_1 rfl (lv_at hl 1 rfl) ?_
  obtain ⟨v_1, hv_1, hF⟩ := bd_s hF
  refine ro_qe (va_runV (As := [.int p1]) (rest := []) ⟨hx, hb, hml, hown, hts⟩ (kX8_find_N l G h0 qb d0 qs m0 bc_ RB p1 v_1 hv_1) (cwV 1 hts gX8_within_X8_find rfl rfl rfl (by decide +kernel) ⟨Nat.le_of_ble_eq_true rfl, Nat.le_of_ble_eq_true rfl⟩) (pvR (q0 := 0) 8 hK (hP.sub (ws' := (wXBn G h0 qb d0 qs m0 bc_ RB)) [0, 1] rfl) rfl rfl) rfl rfl hl.1 rfl (lv_room (Nat.le_of_ble_eq_true rfl)) dX8_within_2 ⟨Nat.le_of_ble_eq_true rfl, Nat.le_of_ble_eq_true rfl⟩) ?_
  refine lv_astore_nN (lv' := [(3, .null), (0, .ref h0), (1, .int p1), (2, .int p2)]) hx hb dX8_within_5 rfl hl (by decide) rfl (fun ls hl => ?_)
  refine lv_aload_n hx hb dX8_within_6 rfl (lv_at hl 1 rfl) ?_
  refine lv_iload_n hx hb dX8_within_7 rfl (lv_at hl 3 rfl) ?_
  obtain ⟨v_2, hv_2, hF⟩ := bd_s hF
  refine ro_qe (va_runV (As := [.int p2]) (rest := []) ⟨hx, hb, hml, hown, hts⟩ (kX8_find_N l G h0 qb d0 qs m0 bc_ RB p2 v_2 hv_2) (cwV 1 hts gX8_within_X8_find rfl rfl rfl (by decide +kernel) ⟨Nat.le_of_ble_eq_true rfl, Nat.le_of_ble_eq_true rfl⟩) (pvR (q0 := 0) 8 hK (hP.sub (ws' := (wXBn G h0 qb d0 qs m0 bc_ RB)) [0, 1] rfl) rfl rfl) rfl rfl hl.1 rfl (lv_room (Nat.le_of_ble_eq_true rfl)) dX8_within_8 ⟨Nat.le_of_ble_eq_true rfl, Nat.le_of_ble_eq_true rfl⟩) ?_
  refine lv_astoreN (lv' := [(4, .null), (3, .null), (0, .ref h0), (1, .int p1), (2, .int p2)]) hx hb dX8_within_11 hl (by decide) rfl (fun ls hl => ?_)
  refine lv_aload_nN hx hb dX8_within_13 rfl (lv_at hl 1 rfl) ?_
  refine lv_ifnullN (tgt := 22) hx hb dX8_within_14 (by decide) ?_
  refine lv_iconst (v := (-1)) hx hb dX8_within_22 (by decide) ?_
  exact W.iret (v := (-1)) hx hb hr  (fun t ht hW => ⟨(-1), rfl, (so_e hF), ht⟩) (fun q h => absurd h List.not_mem_nil) dX8_within_23
def fX8_within_NF (bc_ : Int32) (p1 : Int32) (p2 : Int32) : Option (Int32) :=
  (bd (fX8_find_N bc_ p1) (fun v_1 => (bd (fX8_find_F bc_ p2) (fun v_2 => (some (-1))))))
abbrev rX8_within_NF : Room := { frames := 1, cells := 0, slots := 0, locals := 21 }
set_option maxHeartbeats 40000000 in
set_option maxRecDepth 100000 in
theorem kX8_within_NF (l : Launch) (G : GT) (h0 qb d0 qs m0 f0 f1 : Nat) (bc_ : Int32) (RB : Nat → Option Nat) (p1 : Int32) (p2 : Int32) (hq2 : RB p2.toNatClampNeg = some f1) (res : Int32) (hF : fX8_within_NF bc_ p1 p2 = some res) : Met l yX8_within wsX8_within rX8_within_NF (va_Pc [.ref h0, .int p1, .int p2] (pR G (wXB2 G h0 qb d0 qs m0 m0 m0 bc_ RB))) (vp_Si (fun r => r = res)) 0 0 (fun _ => False) := by
  refine Met.ofW (cc := cX8_within) (maxL := 5) (ret := (some .int)) (by decide) rfl ?_
  intro p e s m args below meth c s₁ B hml hv
  obtain ⟨rfl, hP, hK⟩ := hv
  have hx := B.exec
  have hb := B.bytes
  have hr := B.returns
  have hts := atoms_spec (ws := wsX8_within) B.pre
  have hown : s.vm.findClass RX8 = some m.cls := findClass_of_methodNamed B.named
  have hlocks := B.notSynchronized
  have hl := lv_entry ([.ref h0, .int p1, .int p2]) (n := 5) (Nat.le_of_ble_eq_true rfl)
  rw [lg_entry_eq]
  generalize (lg_sl ([.ref h0, .int p1, .int p2]) ++ List.replicate (5 - (lg_sl ([.ref h0, .int p1, .int p2])).length) Slot.unset).toArray = ls at hl ⊢
  have hl : lv_has ls 5 [(0, .ref h0), (1, .int p1), (2, .int p2)] := hl
  unfold fX8_within_NF at hF
  refine lv_aload_n hx hb dX8_within_0 rfl (lv_at hl 0 rfl) ?_
  refine lv_iload_n hx hb dX8_within_1 rfl (lv_at hl 1 rfl) ?_
  obtain ⟨v_1, hv_1, hF⟩ := bd_s hF
  refine ro_qe (va_runV (As := [.int p1]) (rest := []) ⟨hx, hb, hml, hown, hts⟩ (kX8_find_N l G h0 qb d0 qs m0 bc_ RB p1 v_1 hv_1) (cwV 1 hts gX8_within_X8_find rfl rfl rfl (by decide +kernel) ⟨Nat.le_of_ble_eq_true rfl, Nat.le_of_ble_eq_true rfl⟩) (pvR (q0 := 0) 8 hK (hP.sub (ws' := (wXBn G h0 qb d0 qs m0 bc_ RB)) [0, 1] rfl) rfl rfl) rfl rfl hl.1 rfl (lv_room (Nat.le_of_ble_eq_true rfl)) dX8_within_2 ⟨Nat.le_of_ble_eq_true rfl, Nat.le_of_ble_eq_true rfl⟩) ?_
  refine lv_astore_nN (lv' := [(3, .null), (0, .ref h0), (1, .int p1), (2, .int p2)]) hx hb dX8_within_5 rfl hl (by decide) rfl (fun ls hl => ?_)
  refine lv_aload_n hx hb dX8_within_6 rfl (lv_at hl 1 rfl) ?_
  refine lv_iload_n hx hb dX8_within_7 rfl (lv_at hl 3 rfl) ?_
  obtain ⟨v_2, hv_2, hF⟩ := bd_s hF
  refine ro_qe (va_runV (As := [.int p2]) (rest := []) ⟨hx, hb, hml, hown, hts⟩ (kX8_find_F l G h0 qb d0 qs m0 f1 bc_ RB p2 (by assumption) v_2 hv_2) (cwV 1 hts gX8_within_X8_find rfl rfl rfl (by decide +kernel) ⟨Nat.le_of_ble_eq_true rfl, Nat.le_of_ble_eq_true rfl⟩) (pvR (q0 := 0) 8 hK (hP.sub (ws' := (wXB G h0 qb d0 qs m0 m0 bc_ RB)) [0, 1] rfl) rfl rfl) rfl rfl hl.1 rfl (lv_room (Nat.le_of_ble_eq_true rfl)) dX8_within_8 ⟨Nat.le_of_ble_eq_true rfl, Nat.le_of_ble_eq_true rfl⟩) ?_
  refine lv_astore (lv' := [(4, .ref f1), (3, .null), (0, .ref h0), (1, .int p1), (2, .int p2)]) hx hb dX8_within_11 hl (by decide) rfl (fun ls hl => ?_)
  refine lv_aload_nN hx hb dX8_within_13 rfl (lv_at hl 1 rfl) ?_
  refine lv_ifnullN (tgt := 22) hx hb dX8_within_14 (by decide) ?_
  refine lv_iconst (v := (-1)) hx hb dX8_within_22 (by decide) ?_
  exact W.iret (v := (-1)) hx hb hr  (fun t ht hW => ⟨(-1), rfl, (so_e hF), ht⟩) (fun q h => absurd h List.not_mem_nil) dX8_within_23
def fX8_within_FN (bc_ : Int32) (p1 : Int32) (p2 : Int32) : Option (Int32) :=
  (bd (fX8_find_F bc_ p1) (fun v_1 => (bd (fX8_find_N bc_ p2) (fun v_2 => (some (-1))))))
abbrev rX8_within_FN : Room := { frames := 1, cells := 0, slots := 0, locals := 21 }
set_option maxHeartbeats 40000000 in
set_option maxRecDepth 100000 in
theorem kX8_within_FN (l : Launch) (G : GT) (h0 qb d0 qs m0 f0 f1 : Nat) (bc_ : Int32) (RB : Nat → Option Nat) (p1 : Int32) (p2 : Int32) (hq : RB p1.toNatClampNeg = some f0) (res : Int32) (hF : fX8_within_FN bc_ p1 p2 = some res) : Met l yX8_within wsX8_within rX8_within_FN (va_Pc [.ref h0, .int p1, .int p2] (pR G (wXB2 G h0 qb d0 qs m0 m0 m0 bc_ RB))) (vp_Si (fun r => r = res)) 0 0 (fun _ => False) := by
  refine Met.ofW (cc := cX8_within) (maxL := 5) (ret := (some .int)) (by decide) rfl ?_
  intro p e s m args below meth c s₁ B hml hv
  obtain ⟨rfl, hP, hK⟩ := hv
  have hx := B.exec
  have hb := B.bytes
  have hr := B.returns
  have hts := atoms_spec (ws := wsX8_within) B.pre
  have hown : s.vm.findClass RX8 = some m.cls := findClass_of_methodNamed B.named
  have hlocks := B.notSynchronized
  have hl := lv_entry ([.ref h0, .int p1, .int p2]) (n := 5) (Nat.le_of_ble_eq_true rfl)
  rw [lg_entry_eq]
  generalize (lg_sl ([.ref h0, .int p1, .int p2]) ++ List.replicate (5 - (lg_sl ([.ref h0, .int p1, .int p2])).length) Slot.unset).toArray = ls at hl ⊢
  have hl : lv_has ls 5 [(0, .ref h0), (1, .int p1), (2, .int p2)] := hl
  unfold fX8_within_FN at hF
  refine lv_aload_n hx hb dX8_within_0 rfl (lv_at hl 0 rfl) ?_
  refine lv_iload_n hx hb dX8_within_1 rfl (lv_at hl 1 rfl) ?_
  obtain ⟨v_1, hv_1, hF⟩ := bd_s hF
  refine ro_qe (va_runV (As := [.int p1]) (rest := []) ⟨hx, hb, hml, hown, hts⟩ (kX8_find_F l G h0 qb d0 qs m0 f0 bc_ RB p1 (by assumption) v_1 hv_1) (cwV 1 hts gX8_within_X8_find rfl rfl rfl (by decide +kernel) ⟨Nat.le_of_ble_eq_true rfl, Nat.le_of_ble_eq_true rfl⟩) (pvR (q0 := 0) 8 hK (hP.sub (ws' := (wXB G h0 qb d0 qs m0 m0 bc_ RB)) [0, 1] rfl) rfl rfl) rfl rfl hl.1 rfl (lv_room (Nat.le_of_ble_eq_true rfl)) dX8_within_2 ⟨Nat.le_of_ble_eq_true rfl, Nat.le_of_ble_eq_true rfl⟩) ?_
  refine lv_astore_n (lv' := [(3, .ref f0), (0, .ref h0), (1, .int p1), (2, .int p2)]) hx hb dX8_within_5 rfl hl (by decide) rfl (fun ls hl => ?_)
  refine lv_aload_n hx hb dX8_within_6 rfl (lv_at hl 1 rfl) ?_
  refine lv_iload_n hx hb dX8_within_7 rfl (lv_at hl 3 rfl) ?_
  obtain ⟨v_2, hv_2, hF⟩ := bd_s hF
  refine ro_qe (va_runV (As := [.int p2]) (rest := []) ⟨hx, hb, hml, hown, hts⟩ (kX8_find_N l G h0 qb d0 qs m0 bc_ RB p2 v_2 hv_2) (cwV 1 hts gX8_within_X8_find rfl rfl rfl (by decide +kernel) ⟨Nat.le_of_ble_eq_true rfl, Nat.le_of_ble_eq_true rfl⟩) (pvR (q0 := 0) 8 hK (hP.sub (ws' := (wXBn G h0 qb d0 qs m0 bc_ RB)) [0, 1] rfl) rfl rfl) rfl rfl hl.1 rfl (lv_room (Nat.le_of_ble_eq_true rfl)) dX8_within_8 ⟨Nat.le_of_ble_eq_true rfl, Nat.le_of_ble_eq_true rfl⟩) ?_
  refine lv_astoreN (lv' := [(4, .null), (3, .ref f0), (0, .ref h0), (1, .int p1), (2, .int p2)]) hx hb dX8_within_11 hl (by decide) rfl (fun ls hl => ?_)
  refine lv_aload_n hx hb dX8_within_13 rfl (lv_at hl 1 rfl) ?_
  refine lv_ifnull hx hb dX8_within_14 ?_
  refine lv_aloadN hx hb dX8_within_17 (lv_at hl 0 rfl) ?_
  refine lv_ifnonnullN hx hb dX8_within_19 ?_
  refine lv_iconst (v := (-1)) hx hb dX8_within_22 (by decide) ?_
  exact W.iret (v := (-1)) hx hb hr  (fun t ht hW => ⟨(-1), rfl, (so_e hF), ht⟩) (fun q h => absurd h List.not_mem_nil) dX8_within_23
def fX8_within_FF (nc : Nat) (ns1 : Nat) (nb1 : Nat) (bc_ : Int32) (cs : Int32) (CX : Nat → Int32) (CY : Nat → Int32) (CZ : Nat → Int32) (ss1 : Int32) (SA1 : Nat → Int32) (SB1 : Nat → Int32) (SC1 : Nat → Int32) (SE1 : Nat → Int32) (bs1 : Int32) (BA1 : Nat → Int32) (BB1 : Nat → Int32) (BC1 : Nat → Int32) (BD1 : Nat → Int32) (p1 : Int32) (p2 : Int32) : Option (Int32) :=
  (bd (fX8_find_F bc_ p1) (fun v_1 => (bd (fX8_find_F bc_ p2) (fun v_2 => (bd (fX0_holds ns1 nb1 nc ss1 SA1 SB1 SC1 SE1 bs1 BA1 BB1 BC1 BD1 cs CX CY CZ) (fun v_3 => (if v_3 = 0 then (some 0) else (some 1))))))))
abbrev rX8_within_FF : Room := { frames := 3, cells := 0, slots := 0, locals := 79 }
set_option maxHeartbeats 40000000 in
set_option maxRecDepth 100000 in
theorem kX8_within_FF (l : Launch) (G : GT) (h0 qb f0 c0 cx cy cz f1 s01 sa1 sb1 sc1 se1 b01 ba1 bb1 bc1 be1 d0 qs m0 s0 b0 al ag aw c01 al1 ag1 aw1 : Nat) (nc ns1 nb1 : Nat) (bc_ : Int32) (RB : Nat → Option Nat) (fl : Int32) (mo : Int32) (og : Option Nat) (cs : Int32) (CX : Nat → Int32) (CY : Nat → Int32) (CZ : Nat → Int32) (fl1 : Int32) (mo1 : Int32) (og1 : Option Nat) (ss1 : Int32) (SA1 : Nat → Int32) (SB1 : Nat → Int32) (SC1 : Nat → Int32) (SE1 : Nat → Int32) (bs1 : Int32) (BA1 : Nat → Int32) (BB1 : Nat → Int32) (BC1 : Nat → Int32) (BD1 : Nat → Int32) (p1 : Int32) (p2 : Int32) (hq : RB p1.toNatClampNeg = some f0) (hq2 : RB p2.toNatClampNeg = some f1) (res : Int32) (hF : fX8_within_FF nc ns1 nb1 bc_ cs CX CY CZ ss1 SA1 SB1 SC1 SE1 bs1 BA1 BB1 BC1 BD1 p1 p2 = some res) : Met l yX8_within wsX8_within rX8_within_FF (va_Pc [.ref h0, .int p1, .int p2] (pR G (wXWF G h0 qb f0 c0 cx cy cz f1 s01 sa1 sb1 sc1 se1 b01 ba1 bb1 bc1 be1 d0 qs m0 s0 b0 al ag aw c01 al1 ag1 aw1 nc ns1 nb1 bc_ RB fl mo og cs CX CY CZ fl1 mo1 og1 ss1 SA1 SB1 SC1 SE1 bs1 BA1 BB1 BC1 BD1))) (vp_Si (fun r => r = res)) 0 0 (fun _ => False) := by
  refine Met.ofW (cc := cX8_within) (maxL := 5) (ret := (some .int)) (by decide) rfl ?_
  intro p e s m args below meth c s₁ B hml hv
  obtain ⟨rfl, hP, hK⟩ := hv
  have hx := B.exec
  have hb := B.bytes
  have hr := B.returns
  have hts := atoms_spec (ws := wsX8_within) B.pre
  have hown : s.vm.findClass RX8 = some m.cls := findClass_of_methodNamed B.named
  have hlocks := B.notSynchronized
  have hin0 : ∀ w ∈ u_ws RX0 TX0 9, w ∈ wsX8_within := by decide +kernel
  have hfl100 := hts (.fieldLink RX8 100 "SwellBodies$Body" "corners" "LSwellBodies$Points;") (by decide +kernel)
  have hl := lv_entry ([.ref h0, .int p1, .int p2]) (n := 5) (Nat.le_of_ble_eq_true rfl)
  rw [lg_entry_eq]
  generalize (lg_sl ([.ref h0, .int p1, .int p2]) ++ List.replicate (5 - (lg_sl ([.ref h0, .int p1, .int p2])).length) Slot.unset).toArray = ls at hl ⊢
  have hl : lv_has ls 5 [(0, .ref h0), (1, .int p1), (2, .int p2)] := hl
  unfold fX8_within_FF at hF
  refine lv_aload_n hx hb dX8_within_0 rfl (lv_at hl 0 rfl) ?_
  refine lv_iload_n hx hb dX8_within_1 rfl (lv_at hl 1 rfl) ?_
  obtain ⟨v_1, hv_1, hF⟩ := bd_s hF
  refine ro_qe (va_runV (As := [.int p1]) (rest := []) ⟨hx, hb, hml, hown, hts⟩ (kX8_find_F l G h0 qb d0 qs m0 f0 bc_ RB p1 (by assumption) v_1 hv_1) (cwV 1 hts gX8_within_X8_find rfl rfl rfl (by decide +kernel) ⟨Nat.le_of_ble_eq_true rfl, Nat.le_of_ble_eq_true rfl⟩) (pvR (q0 := 0) 8 hK (hP.sub (ws' := (wXB G h0 qb d0 qs m0 m0 bc_ RB)) [0, 1] rfl) rfl rfl) rfl rfl hl.1 rfl (lv_room (Nat.le_of_ble_eq_true rfl)) dX8_within_2 ⟨Nat.le_of_ble_eq_true rfl, Nat.le_of_ble_eq_true rfl⟩) ?_
  refine lv_astore_n (lv' := [(3, .ref f0), (0, .ref h0), (1, .int p1), (2, .int p2)]) hx hb dX8_within_5 rfl hl (by decide) rfl (fun ls hl => ?_)
  refine lv_aload_n hx hb dX8_within_6 rfl (lv_at hl 1 rfl) ?_
  refine lv_iload_n hx hb dX8_within_7 rfl (lv_at hl 3 rfl) ?_
  obtain ⟨v_2, hv_2, hF⟩ := bd_s hF
  refine ro_qe (va_runV (As := [.int p2]) (rest := []) ⟨hx, hb, hml, hown, hts⟩ (kX8_find_F l G h0 qb d0 qs m0 f1 bc_ RB p2 (by assumption) v_2 hv_2) (cwV 1 hts gX8_within_X8_find rfl rfl rfl (by decide +kernel) ⟨Nat.le_of_ble_eq_true rfl, Nat.le_of_ble_eq_true rfl⟩) (pvR (q0 := 0) 8 hK (hP.sub (ws' := (wXB G h0 qb d0 qs m0 m0 bc_ RB)) [0, 1] rfl) rfl rfl) rfl rfl hl.1 rfl (lv_room (Nat.le_of_ble_eq_true rfl)) dX8_within_8 ⟨Nat.le_of_ble_eq_true rfl, Nat.le_of_ble_eq_true rfl⟩) ?_
  refine lv_astore (lv' := [(4, .ref f1), (3, .ref f0), (0, .ref h0), (1, .int p1), (2, .int p2)]) hx hb dX8_within_11 hl (by decide) rfl (fun ls hl => ?_)
  refine lv_aload_n hx hb dX8_within_13 rfl (lv_at hl 1 rfl) ?_
  refine lv_ifnull hx hb dX8_within_14 ?_
  refine lv_aload hx hb dX8_within_17 (lv_at hl 0 rfl) ?_
  refine lv_ifnonnull (tgt := 24) hx hb dX8_within_19 (by decide) ?_
  refine lv_aload hx hb dX8_within_24 (lv_at hl 0 rfl) ?_
  refine lv_aload_n hx hb dX8_within_26 rfl (lv_at hl 1 rfl) ?_
  refine va_get (ci := 0) (v := .ref c0) (C := RX0) (T := TX0) (N := 9) hx hb hts hin0 hown hK hP 2 rfl rfl 2 (by decide) hfl100 (fun _ h9 => h9) rfl dX8_within_27 ?_
  obtain ⟨v_3, hv_3, hF⟩ := bd_s hF
  refine ro_ze (va_runV (As := [.ref c0]) (rest := []) ⟨hx, hb, hml, hown, hts⟩ (kX0_holds l G f1 s01 sa1 sb1 sc1 se1 b01 ba1 bb1 bc1 be1 c0 cx cy cz c01 al1 ag1 aw1 ns1 nb1 nc fl1 mo1 og1 ss1 SA1 SB1 SC1 SE1 bs1 BA1 BB1 BC1 BD1 cs CX CY CZ v_3 hv_3) (cwV 1 hts gX8_within_X0_holds rfl rfl rfl (by decide +kernel) ⟨Nat.le_of_ble_eq_true rfl, Nat.le_of_ble_eq_true rfl⟩) (pvR (q0 := 0) 0 hK (hP.sub (ws' := (wBdH G f1 s01 sa1 sb1 sc1 se1 b01 ba1 bb1 bc1 be1 c0 cx cy cz c01 al1 ag1 aw1 ns1 nb1 nc fl1 mo1 og1 ss1 SA1 SB1 SC1 SE1 bs1 BA1 BB1 BC1 BD1 cs CX CY CZ)) [7, 8, 9, 10, 11, 12, 13, 14, 15, 16, 17, 3, 4, 5, 6] rfl) rfl rfl) rfl rfl hl.1 rfl (lv_room (Nat.le_of_ble_eq_true rfl)) dX8_within_30 ⟨Nat.le_of_ble_eq_true rfl, Nat.le_of_ble_eq_true rfl⟩) (fun hb_4 => ?_)
  refine lv_if_eq (tgt := 40) hx hb dX8_within_33 (by decide) (fun c_5 => ?_) (fun c_5 => ?_)
  · replace hF := it_p c_5 hF
    refine lv_iconst (v := 0) hx hb dX8_within_40 (by decide) ?_
    exact W.iret (v := 0) hx hb hr  (fun t ht hW => ⟨0, rfl, (so_e hF), ht⟩) (fun q h => absurd h List.not_mem_nil) dX8_within_41
  · replace hF := it_n c_5 hF
    refine lv_iconst (v := 1) hx hb dX8_within_36 (by decide) ?_
    refine lv_goto (tgt := 41) hx hb dX8_within_37 (by decide) ?_
    exact W.iret (v := 1) hx hb hr  (fun t ht hW => ⟨1, rfl, (so_e hF), ht⟩) (fun q h => absurd h List.not_mem_nil) dX8_within_41
def fX8_same_NN (bc_ : Int32) (p1 : Int32) (p2 : Int32) : Option (Int32) :=
  (bd (fX8_find_N bc_ p1) (fun v_1 => (bd (fX8_find_N bc_ p2) (fun v_2 => (some (-1))))))
abbrev rX8_same_NN : Room := { frames := 1, cells := 0, slots := 0, locals := 21 }
set_option maxHeartbeats 40000000 in
set_option maxRecDepth 100000 in
theorem kX8_same_NN (l : Launch) (G : GT) (h0 qb d0 qs m0 : Nat) (bc_ : Int32) (RB : Nat → Option Nat) (p1 : Int32) (p2 : Int32) (res : Int32) (hF : fX8_same_NN bc_ p1 p2 = some res) : Met l yX8_same wsX8_same rX8_same_NN (va_Pc [.ref h0, .int p1, .int p2] (pR G (wXBn G h0 qb d0 qs m0 bc_ RB))) (vp_Si (fun r => r = res)) 0 0 (fun _ => False) := by
  refine Met.ofW (cc := cX8_same) (maxL := 5) (ret := (some .int)) (by decide) rfl ?_
  intro p e s m args below meth c s₁ B hml hv
  obtain ⟨rfl, hP, hK⟩ := hv
  have hx := B.exec
  have hb := B.bytes
  have hr := B.returns
  have hts := atoms_spec (ws := wsX8_same) B.pre
  have hown : s.vm.findClass RX8 = some m.cls := findClass_of_methodNamed B.named
  have hlocks := B.notSynchronized
  have hl := lv_entry ([.ref h0, .int p1, .int p2]) (n := 5) (Nat.le_of_ble_eq_true rfl)
  rw [lg_entry_eq]
  generalize (lg_sl ([.ref h0, .int p1, .int p2]) ++ List.replicate (5 - (lg_sl ([.ref h0, .int p1, .int p2])).length) Slot.unset).toArray = ls at hl ⊢
  have hl : lv_has ls 5 [(0, .ref h0), (1, .int p1), (2, .int p2)] := hl
  unfold fX8_same_NN at hF
  refine lv_aload_n hx hb dX8_same_0 rfl (lv_at hl 0 rfl) ?_
  refine lv_iload_n hx hb dX8_same_1 rfl (lv_at hl 1 rfl) ?_
  obtain ⟨v_1, hv_1, hF⟩ := bd_s hF
  refine ro_qe (va_runV (As := [.int p1]) (rest := []) ⟨hx, hb, hml, hown, hts⟩ (kX8_find_N l G h0 qb d0 qs m0 bc_ RB p1 v_1 hv_1) (cwV 1 hts gX8_same_X8_find rfl rfl rfl (by decide +kernel) ⟨Nat.le_of_ble_eq_true rfl, Nat.le_of_ble_eq_true rfl⟩) (pvR (q0 := 0) 8 hK (hP.sub (ws' := (wXBn G h0 qb d0 qs m0 bc_ RB)) [0, 1] rfl) rfl rfl) rfl rfl hl.1 rfl (lv_room (Nat.le_of_ble_eq_true rfl)) dX8_same_2 ⟨Nat.le_of_ble_eq_true rfl, Nat.le_of_ble_eq_true rfl⟩) ?_
  refine lv_astore_nN (lv' := [(3, .null), (0, .ref h0), (1, .int p1), (2, .int p2)]) hx hb dX8_same_5 rfl hl (by decide) rfl (fun ls hl => ?_)
  refine lv_aload_n hx hb dX8_same_6 rfl (lv_at hl 1 rfl) ?_
  refine lv_iload_n hx hb dX8_same_7 rfl (lv_at hl 3 rfl) ?_
  obtain ⟨v_2, hv_2, hF⟩ := bd_s hF
  refine ro_qe (va_runV (As := [.int p2]) (rest := []) ⟨hx, hb, hml, hown, hts⟩ (kX8_find_N l G h0 qb d0 qs m0 bc_ RB p2 v_2 hv_2) (cwV 1 hts gX8_same_X8_find rfl rfl rfl (by decide +kernel) ⟨Nat.le_of_ble_eq_true rfl, Nat.le_of_ble_eq_true rfl⟩) (pvR (q0 := 0) 8 hK (hP.sub (ws' := (wXBn G h0 qb d0 qs m0 bc_ RB)) [0, 1] rfl) rfl rfl) rfl rfl hl.1 rfl (lv_room (Nat.le_of_ble_eq_true rfl)) dX8_same_8 ⟨Nat.le_of_ble_eq_true rfl, Nat.le_of_ble_eq_true rfl⟩) ?_
  refine lv_astoreN (lv' := [(4, .null), (3, .null), (0, .ref h0), (1, .int p1), (2, .int p2)]) hx hb dX8_same_11 hl (by decide) rfl (fun ls hl => ?_)
  refine lv_aload_nN hx hb dX8_same_13 rfl (lv_at hl 1 rfl) ?_
  refine lv_ifnullN (tgt := 22) hx hb dX8_same_14 (by decide) ?_
  refine lv_iconst (v := (-1)) hx hb dX8_same_22 (by decide) ?_
  exact W.iret (v := (-1)) hx hb hr  (fun t ht hW => ⟨(-1), rfl, (so_e hF), ht⟩) (fun q h => absurd h List.not_mem_nil) dX8_same_23
def fX8_same_NF (bc_ : Int32) (p1 : Int32) (p2 : Int32) : Option (Int32) :=
  (bd (fX8_find_N bc_ p1) (fun v_1 => (bd (fX8_find_F bc_ p2) (fun v_2 => (some (-1))))))
abbrev rX8_same_NF : Room := { frames := 1, cells := 0, slots := 0, locals := 21 }
set_option maxHeartbeats 40000000 in
set_option maxRecDepth 100000 in
theorem kX8_same_NF (l : Launch) (G : GT) (h0 qb d0 qs m0 f0 f1 : Nat) (bc_ : Int32) (RB : Nat → Option Nat) (p1 : Int32) (p2 : Int32) (hq2 : RB p2.toNatClampNeg = some f1) (res : Int32) (hF : fX8_same_NF bc_ p1 p2 = some res) : Met l yX8_same wsX8_same rX8_same_NF (va_Pc [.ref h0, .int p1, .int p2] (pR G (wXB2 G h0 qb d0 qs m0 m0 m0 bc_ RB))) (vp_Si (fun r => r = res)) 0 0 (fun _ => False) := by
  refine Met.ofW (cc := cX8_same) (maxL := 5) (ret := (some .int)) (by decide) rfl ?_
  intro p e s m args below meth c s₁ B hml hv
  obtain ⟨rfl, hP, hK⟩ := hv
  have hx := B.exec
  have hb := B.bytes
  have hr := B.returns
  have hts := atoms_spec (ws := wsX8_same) B.pre
  have hown : s.vm.findClass RX8 = some m.cls := findClass_of_methodNamed B.named
  have hlocks := B.notSynchronized
  have hl := lv_entry ([.ref h0, .int p1, .int p2]) (n := 5) (Nat.le_of_ble_eq_true rfl)
  rw [lg_entry_eq]
  generalize (lg_sl ([.ref h0, .int p1, .int p2]) ++ List.replicate (5 - (lg_sl ([.ref h0, .int p1, .int p2])).length) Slot.unset).toArray = ls at hl ⊢
  have hl : lv_has ls 5 [(0, .ref h0), (1, .int p1), (2, .int p2)] := hl
  unfold fX8_same_NF at hF
  refine lv_aload_n hx hb dX8_same_0 rfl (lv_at hl 0 rfl) ?_
  refine lv_iload_n hx hb dX8_same_1 rfl (lv_at hl 1 rfl) ?_
  obtain ⟨v_1, hv_1, hF⟩ := bd_s hF
  refine ro_qe (va_runV (As := [.int p1]) (rest := []) ⟨hx, hb, hml, hown, hts⟩ (kX8_find_N l G h0 qb d0 qs m0 bc_ RB p1 v_1 hv_1) (cwV 1 hts gX8_same_X8_find rfl rfl rfl (by decide +kernel) ⟨Nat.le_of_ble_eq_true rfl, Nat.le_of_ble_eq_true rfl⟩) (pvR (q0 := 0) 8 hK (hP.sub (ws' := (wXBn G h0 qb d0 qs m0 bc_ RB)) [0, 1] rfl) rfl rfl) rfl rfl hl.1 rfl (lv_room (Nat.le_of_ble_eq_true rfl)) dX8_same_2 ⟨Nat.le_of_ble_eq_true rfl, Nat.le_of_ble_eq_true rfl⟩) ?_
  refine lv_astore_nN (lv' := [(3, .null), (0, .ref h0), (1, .int p1), (2, .int p2)]) hx hb dX8_same_5 rfl hl (by decide) rfl (fun ls hl => ?_)
  refine lv_aload_n hx hb dX8_same_6 rfl (lv_at hl 1 rfl) ?_
  refine lv_iload_n hx hb dX8_same_7 rfl (lv_at hl 3 rfl) ?_
  obtain ⟨v_2, hv_2, hF⟩ := bd_s hF
  refine ro_qe (va_runV (As := [.int p2]) (rest := []) ⟨hx, hb, hml, hown, hts⟩ (kX8_find_F l G h0 qb d0 qs m0 f1 bc_ RB p2 (by assumption) v_2 hv_2) (cwV 1 hts gX8_same_X8_find rfl rfl rfl (by decide +kernel) ⟨Nat.le_of_ble_eq_true rfl, Nat.le_of_ble_eq_true rfl⟩) (pvR (q0 := 0) 8 hK (hP.sub (ws' := (wXB G h0 qb d0 qs m0 m0 bc_ RB)) [0, 1] rfl) rfl rfl) rfl rfl hl.1 rfl (lv_room (Nat.le_of_ble_eq_true rfl)) dX8_same_8 ⟨Nat.le_of_ble_eq_true rfl, Nat.le_of_ble_eq_true rfl⟩) ?_
  refine lv_astore (lv' := [(4, .ref f1), (3, .null), (0, .ref h0), (1, .int p1), (2, .int p2)]) hx hb dX8_same_11 hl (by decide) rfl (fun ls hl => ?_)
  refine lv_aload_nN hx hb dX8_same_13 rfl (lv_at hl 1 rfl) ?_
  refine lv_ifnullN (tgt := 22) hx hb dX8_same_14 (by decide) ?_
  refine lv_iconst (v := (-1)) hx hb dX8_same_22 (by decide) ?_
  exact W.iret (v := (-1)) hx hb hr  (fun t ht hW => ⟨(-1), rfl, (so_e hF), ht⟩) (fun q h => absurd h List.not_mem_nil) dX8_same_23
def fX8_same_FN (bc_ : Int32) (p1 : Int32) (p2 : Int32) : Option (Int32) :=
  (bd (fX8_find_F bc_ p1) (fun v_1 => (bd (fX8_find_N bc_ p2) (fun v_2 => (some (-1))))))
abbrev rX8_same_FN : Room := { frames := 1, cells := 0, slots := 0, locals := 21 }
set_option maxHeartbeats 40000000 in
set_option maxRecDepth 100000 in
theorem kX8_same_FN (l : Launch) (G : GT) (h0 qb d0 qs m0 f0 f1 : Nat) (bc_ : Int32) (RB : Nat → Option Nat) (p1 : Int32) (p2 : Int32) (hq : RB p1.toNatClampNeg = some f0) (res : Int32) (hF : fX8_same_FN bc_ p1 p2 = some res) : Met l yX8_same wsX8_same rX8_same_FN (va_Pc [.ref h0, .int p1, .int p2] (pR G (wXB2 G h0 qb d0 qs m0 m0 m0 bc_ RB))) (vp_Si (fun r => r = res)) 0 0 (fun _ => False) := by
  refine Met.ofW (cc := cX8_same) (maxL := 5) (ret := (some .int)) (by decide) rfl ?_
  intro p e s m args below meth c s₁ B hml hv
  obtain ⟨rfl, hP, hK⟩ := hv
  have hx := B.exec
  have hb := B.bytes
  have hr := B.returns
  have hts := atoms_spec (ws := wsX8_same) B.pre
  have hown : s.vm.findClass RX8 = some m.cls := findClass_of_methodNamed B.named
  have hlocks := B.notSynchronized
  have hl := lv_entry ([.ref h0, .int p1, .int p2]) (n := 5) (Nat.le_of_ble_eq_true rfl)
  rw [lg_entry_eq]
  generalize (lg_sl ([.ref h0, .int p1, .int p2]) ++ List.replicate (5 - (lg_sl ([.ref h0, .int p1, .int p2])).length) Slot.unset).toArray = ls at hl ⊢
  have hl : lv_has ls 5 [(0, .ref h0), (1, .int p1), (2, .int p2)] := hl
  unfold fX8_same_FN at hF
  refine lv_aload_n hx hb dX8_same_0 rfl (lv_at hl 0 rfl) ?_
  refine lv_iload_n hx hb dX8_same_1 rfl (lv_at hl 1 rfl) ?_
  obtain ⟨v_1, hv_1, hF⟩ := bd_s hF
  refine ro_qe (va_runV (As := [.int p1]) (rest := []) ⟨hx, hb, hml, hown, hts⟩ (kX8_find_F l G h0 qb d0 qs m0 f0 bc_ RB p1 (by assumption) v_1 hv_1) (cwV 1 hts gX8_same_X8_find rfl rfl rfl (by decide +kernel) ⟨Nat.le_of_ble_eq_true rfl, Nat.le_of_ble_eq_true rfl⟩) (pvR (q0 := 0) 8 hK (hP.sub (ws' := (wXB G h0 qb d0 qs m0 m0 bc_ RB)) [0, 1] rfl) rfl rfl) rfl rfl hl.1 rfl (lv_room (Nat.le_of_ble_eq_true rfl)) dX8_same_2 ⟨Nat.le_of_ble_eq_true rfl, Nat.le_of_ble_eq_true rfl⟩) ?_
  refine lv_astore_n (lv' := [(3, .ref f0), (0, .ref h0), (1, .int p1), (2, .int p2)]) hx hb dX8_same_5 rfl hl (by decide) rfl (fun ls hl => ?_)
  refine lv_aload_n hx hb dX8_same_6 rfl (lv_at hl 1 rfl) ?_
  refine lv_iload_n hx hb dX8_same_7 rfl (lv_at hl 3 rfl) ?_
  obtain ⟨v_2, hv_2, hF⟩ := bd_s hF
  refine ro_qe (va_runV (As := [.int p2]) (rest := []) ⟨hx, hb, hml, hown, hts⟩ (kX8_find_N l G h0 qb d0 qs m0 bc_ RB p2 v_2 hv_2) (cwV 1 hts gX8_same_X8_find rfl rfl rfl (by decide +kernel) ⟨Nat.le_of_ble_eq_true rfl, Nat.le_of_ble_eq_true rfl⟩) (pvR (q0 := 0) 8 hK (hP.sub (ws' := (wXBn G h0 qb d0 qs m0 bc_ RB)) [0, 1] rfl) rfl rfl) rfl rfl hl.1 rfl (lv_room (Nat.le_of_ble_eq_true rfl)) dX8_same_8 ⟨Nat.le_of_ble_eq_true rfl, Nat.le_of_ble_eq_true rfl⟩) ?_
  refine lv_astoreN (lv' := [(4, .null), (3, .ref f0), (0, .ref h0), (1, .int p1), (2, .int p2)]) hx hb dX8_same_11 hl (by decide) rfl (fun ls hl => ?_)
  refine lv_aload_n hx hb dX8_same_13 rfl (lv_at hl 1 rfl) ?_
  refine lv_ifnull hx hb dX8_same_14 ?_
  refine lv_aloadN hx hb dX8_same_17 (lv_at hl 0 rfl) ?_
  refine lv_ifnonnullN hx hb dX8_same_19 ?_
  refine lv_iconst (v := (-1)) hx hb dX8_same_22 (by decide) ?_
  exact W.iret (v := (-1)) hx hb hr  (fun t ht hW => ⟨(-1), rfl, (so_e hF), ht⟩) (fun q h => absurd h List.not_mem_nil) dX8_same_23
def fX8_same_FF (nc : Nat) (nc1 : Nat) (bc_ : Int32) (cs : Int32) (CX : Nat → Int32) (CY : Nat → Int32) (CZ : Nat → Int32) (cs1 : Int32) (CX1 : Nat → Int32) (CY1 : Nat → Int32) (CZ1 : Nat → Int32) (p1 : Int32) (p2 : Int32) : Option (Int32) :=
  (bd (fX8_find_F bc_ p1) (fun v_1 => (bd (fX8_find_F bc_ p2) (fun v_2 => (bd (fX4_isMoved nc nc1 cs CX CY CZ cs1 CX1 CY1 CZ1) (fun v_3 => (if v_3 = 0 then (some 0) else (bd (fX4_compare nc nc1 CX CY CZ CX1 CY1 CZ1 0 0) (fun v_6 => (if v_6 = 0 then (some 2) else (some 1)))))))))))
abbrev rX8_same_FF : Room := { frames := 1, cells := 0, slots := 0, locals := 23 }
set_option maxHeartbeats 40000000 in
set_option maxRecDepth 100000 in
theorem kX8_same_FF (l : Launch) (G : GT) (h0 qb f0 c0 cx cy cz f1 c01 cx1 cy1 cz1 d0 qs m0 s0 b0 al ag aw s01 b01 al1 ag1 aw1 : Nat) (nc nc1 : Nat) (bc_ : Int32) (RB : Nat → Option Nat) (fl : Int32) (mo : Int32) (og : Option Nat) (cs : Int32) (CX : Nat → Int32) (CY : Nat → Int32) (CZ : Nat → Int32) (fl1 : Int32) (mo1 : Int32) (og1 : Option Nat) (cs1 : Int32) (CX1 : Nat → Int32) (CY1 : Nat → Int32) (CZ1 : Nat → Int32) (p1 : Int32) (p2 : Int32) (hq : RB p1.toNatClampNeg = some f0) (hq2 : RB p2.toNatClampNeg = some f1) (res : Int32) (hF : fX8_same_FF nc nc1 bc_ cs CX CY CZ cs1 CX1 CY1 CZ1 p1 p2 = some res) : Met l yX8_same wsX8_same rX8_same_FF (va_Pc [.ref h0, .int p1, .int p2] (pR G (wXSF G h0 qb f0 c0 cx cy cz f1 c01 cx1 cy1 cz1 d0 qs m0 s0 b0 al ag aw s01 b01 al1 ag1 aw1 nc nc1 bc_ RB fl mo og cs CX CY CZ fl1 mo1 og1 cs1 CX1 CY1 CZ1))) (vp_Si (fun r => r = res)) 0 0 (fun _ => False) := by
  refine Met.ofW (cc := cX8_same) (maxL := 5) (ret := (some .int)) (by decide) rfl ?_
  intro p e s m args below meth c s₁ B hml hv
  obtain ⟨rfl, hP, hK⟩ := hv
  have hx := B.exec
  have hb := B.bytes
  have hr := B.returns
  have hts := atoms_spec (ws := wsX8_same) B.pre
  have hown : s.vm.findClass RX8 = some m.cls := findClass_of_methodNamed B.named
  have hlocks := B.notSynchronized
  have hin0 : ∀ w ∈ u_ws RX0 TX0 9, w ∈ wsX8_same := by decide +kernel
  have hfl100 := hts (.fieldLink RX8 100 "SwellBodies$Body" "corners" "LSwellBodies$Points;") (by decide +kernel)
  have hl := lv_entry ([.ref h0, .int p1, .int p2]) (n := 5) (Nat.le_of_ble_eq_true rfl)
  rw [lg_entry_eq]
  generalize (lg_sl ([.ref h0, .int p1, .int p2]) ++ List.replicate (5 - (lg_sl ([.ref h0, .int p1, .int p2])).length) Slot.unset).toArray = ls at hl ⊢
  have hl : lv_has ls 5 [(0, .ref h0), (1, .int p1), (2, .int p2)] := hl
  unfold fX8_same_FF at hF
  refine lv_aload_n hx hb dX8_same_0 rfl (lv_at hl 0 rfl) ?_
  refine lv_iload_n hx hb dX8_same_1 rfl (lv_at hl 1 rfl) ?_
  obtain ⟨v_1, hv_1, hF⟩ := bd_s hF
  refine ro_qe (va_runV (As := [.int p1]) (rest := []) ⟨hx, hb, hml, hown, hts⟩ (kX8_find_F l G h0 qb d0 qs m0 f0 bc_ RB p1 (by assumption) v_1 hv_1) (cwV 1 hts gX8_same_X8_find rfl rfl rfl (by decide +kernel) ⟨Nat.le_of_ble_eq_true rfl, Nat.le_of_ble_eq_true rfl⟩) (pvR (q0 := 0) 8 hK (hP.sub (ws' := (wXB G h0 qb d0 qs m0 m0 bc_ RB)) [0, 1] rfl) rfl rfl) rfl rfl hl.1 rfl (lv_room (Nat.le_of_ble_eq_true rfl)) dX8_same_2 ⟨Nat.le_of_ble_eq_true rfl, Nat.le_of_ble_eq_true rfl⟩) ?_
  refine lv_astore_n (lv' := [(3, .ref f0), (0, .ref h0), (1, .int p1), (2, .int p2)]) hx hb dX8_same_5 rfl hl (by decide) rfl (fun ls hl => ?_)
  refine lv_aload_n hx hb dX8_same_6 rfl (lv_at hl 1 rfl) ?_
  refine lv_iload_n hx hb dX8_same_7 rfl (lv_at hl 3 rfl) ?_
  obtain ⟨v_2, hv_2, hF⟩ := bd_s hF
  refine ro_qe (va_runV (As := [.int p2]) (rest := []) ⟨hx, hb, hml, hown, hts⟩ (kX8_find_F l G h0 qb d0 qs m0 f1 bc_ RB p2 (by assumption) v_2 hv_2) (cwV 1 hts gX8_same_X8_find rfl rfl rfl (by decide +kernel) ⟨Nat.le_of_ble_eq_true rfl, Nat.le_of_ble_eq_true rfl⟩) (pvR (q0 := 0) 8 hK (hP.sub (ws' := (wXB G h0 qb d0 qs m0 m0 bc_ RB)) [0, 1] rfl) rfl rfl) rfl rfl hl.1 rfl (lv_room (Nat.le_of_ble_eq_true rfl)) dX8_same_8 ⟨Nat.le_of_ble_eq_true rfl, Nat.le_of_ble_eq_true rfl⟩) ?_
  refine lv_astore (lv' := [(4, .ref f1), (3, .ref f0), (0, .ref h0), (1, .int p1), (2, .int p2)]) hx hb dX8_same_11 hl (by decide) rfl (fun ls hl => ?_)
  refine lv_aload_n hx hb dX8_same_13 rfl (lv_at hl 1 rfl) ?_
  refine lv_ifnull hx hb dX8_same_14 ?_
  refine lv_aload hx hb dX8_same_17 (lv_at hl 0 rfl) ?_
  refine lv_ifnonnull (tgt := 24) hx hb dX8_same_19 (by decide) ?_
  refine lv_aload_n hx hb dX8_same_24 rfl (lv_at hl 1 rfl) ?_
  refine va_get (ci := 0) (v := .ref c0) (C := RX0) (T := TX0) (N := 9) hx hb hts hin0 hown hK hP 2 rfl rfl 2 (by decide) hfl100 (fun _ h9 => h9) rfl dX8_same_25 ?_
  refine lv_aload hx hb dX8_same_28 (lv_at hl 0 rfl) ?_
  refine va_get (ci := 0) (v := .ref c01) (C := RX0) (T := TX0) (N := 9) hx hb hts hin0 hown hK hP 7 rfl rfl 2 (by decide) hfl100 (fun _ h9 => h9) rfl dX8_same_30 ?_
  obtain ⟨v_3, hv_3, hF⟩ := bd_s hF
  refine ro_ze (va_runV (As := [.ref c01]) (rest := []) ⟨hx, hb, hml, hown, hts⟩ (kX4_isMoved l G c0 cx cy cz c01 cx1 cy1 cz1 nc nc1 cs CX CY CZ cs1 CX1 CY1 CZ1 v_3 hv_3) (cwV 1 hts gX8_same_X4_isMoved rfl rfl rfl (by decide +kernel) ⟨Nat.le_of_ble_eq_true rfl, Nat.le_of_ble_eq_true rfl⟩) (pvR (q0 := 0) 4 hK (hP.sub (ws' := (wPts2 G c0 cx cy cz c01 cx1 cy1 cz1 nc nc1 cs CX CY CZ cs1 CX1 CY1 CZ1)) [3, 4, 5, 6, 8, 9, 10, 11] rfl) rfl rfl) rfl rfl hl.1 rfl (lv_room (Nat.le_of_ble_eq_true rfl)) dX8_same_33 ⟨Nat.le_of_ble_eq_true rfl, Nat.le_of_ble_eq_true rfl⟩) (fun hb_4 => ?_)
  refine lv_if_ne (tgt := 41) hx hb dX8_same_36 (by decide) (fun c_5 => ?_) (fun c_5 => ?_)
  · replace hF := it_n c_5 hF
    refine lv_aload_n hx hb dX8_same_41 rfl (lv_at hl 1 rfl) ?_
    refine va_get (ci := 0) (v := .ref c0) (C := RX0) (T := TX0) (N := 9) hx hb hts hin0 hown hK hP 2 rfl rfl 2 (by decide) hfl100 (fun _ h9 => h9) rfl dX8_same_42 ?_
    refine lv_iconst (v := 0) hx hb dX8_same_45 (by decide) ?_
    refine lv_aload hx hb dX8_same_46 (lv_at hl 0 rfl) ?_
    refine va_get (ci := 0) (v := .ref c01) (C := RX0) (T := TX0) (N := 9) hx hb hts hin0 hown hK hP 7 rfl rfl 2 (by decide) hfl100 (fun _ h9 => h9) rfl dX8_same_48 ?_
    refine lv_iconst (v := 0) hx hb dX8_same_51 (by decide) ?_
    obtain ⟨v_6, hv_6, hF⟩ := bd_s hF
    refine ro_ie (va_runV (As := [.int 0, .ref c01, .int 0]) (rest := []) ⟨hx, hb, hml, hown, hts⟩ (kX4_compare l G c0 cx cy cz c01 cx1 cy1 cz1 nc nc1 cs CX CY CZ cs1 CX1 CY1 CZ1 0 0 v_6 hv_6) (cwV 3 hts gX8_same_X4_compare rfl rfl rfl (by decide +kernel) ⟨Nat.le_of_ble_eq_true rfl, Nat.le_of_ble_eq_true rfl⟩) (pvR (q0 := 0) 4 hK (hP.sub (ws' := (wPts2 G c0 cx cy cz c01 cx1 cy1 cz1 nc nc1 cs CX CY CZ cs1 CX1 CY1 CZ1)) [3, 4, 5, 6, 8, 9, 10, 11] rfl) rfl rfl) rfl rfl hl.1 rfl (lv_room (Nat.le_of_ble_eq_true rfl)) dX8_same_52 ⟨Nat.le_of_ble_eq_true rfl, Nat.le_of_ble_eq_true rfl⟩) ?_
    refine lv_if_ne (tgt := 62) hx hb dX8_same_55 (by decide) (fun c_7 => ?_) (fun c_7 => ?_)
    · replace hF := it_n c_7 hF
      refine lv_iconst (v := 1) hx hb dX8_same_62 (by decide) ?_
      exact W.iret (v := 1) hx hb hr  (fun t ht hW => ⟨1, rfl, (so_e hF), ht⟩) (fun q h => absurd h List.not_mem_nil) dX8_same_63
    · replace hF := it_p c_7 hF
      refine lv_iconst (v := 2) hx hb dX8_same_58 (by decide) ?_
      refine lv_goto (tgt := 63) hx hb dX8_same_59 (by decide) ?_
      exact W.iret (v := 2) hx hb hr  (fun t ht hW => ⟨2, rfl, (so_e hF), ht⟩) (fun q h => absurd h List.not_mem_nil) dX8_same_63
  · replace hF := it_p c_5 hF
    refine lv_iconst (v := 0) hx hb dX8_same_39 (by decide) ?_
    exact W.iret (v := 0) hx hb hr  (fun t ht hW => ⟨0, rfl, (so_e hF), ht⟩) (fun q h => absurd h List.not_mem_nil) dX8_same_40
