/-! growth first, then the answer -/
def gmQ (G : GT) (A : XAd) (C : XCt) (a : BAd) (b : BCt) (gres : Int32 × (Nat → Int32) × BCt) (Wr : va_W) (v0 : Option Value) : Option Value → va_W → Prop := fun v w => v = v0 ∧ (w = f1W G A C ++ (bcW G a b none ++ (swsW G a b.sw ++ Wr)) ∨ ∃ (RW : Nat → Option Nat) (w' wb' : Nat → Nat) (o an : Nat), bok (aset2 a RW w' wb' o an) gres.2.2 ∧ w = bcW G (aset2 a RW w' wb' o an) b (some o) ++ (grW G o an gres.1 gres.2.1 ++ (swsW G (aset2 a RW w' wb' o an) gres.2.2.sw ++ (f1W G A C ++ Wr))))
abbrev rX8_count_g : Room := { frames := 7, cells := 10, slots := 260, locals := 190 }
set_option maxHeartbeats 40000000 in
set_option maxRecDepth 100000 in
theorem KX8_count_g (l : Launch) (G : GT) (A : XAd) (C : XCt) (a : BAd) (b : BCt) (p1 p2 : Int32) (hq : A.RB p1.toNatClampNeg = some a.f) (hok : bok a b) (gres : Int32 × (Nat → Int32) × BCt) (hG : fgrow b = some gres) (res : Int32) (hF : fX8_count_c C.bc gres.2.1 p1 p2 = some res) (Wr : va_W) : KM l yX8_count wsX8_count rX8_count_g [.ref A.h, .int p1, .int p2] G (f1W G A C ++ (bcW G a b none ++ (swsW G a b.sw ++ Wr))) (gmQ G A C a b gres Wr (some (.int res))) 10 260 := by
  intro sz
  show Met l _ _ _ _ (kmQ G (va_A (f1W G A C ++ (bcW G a b none ++ (swsW G a b.sw ++ Wr))) sz) (gmQ G A C a b gres Wr (some (.int res)))) _ _ _
  refine Met.ofW (cc := cX8_count) (maxL := 4) (ret := (some .int)) (by decide) rfl ?_
  intro p e s m args below meth c s₁ B hml hv
  obtain ⟨rfl, ⟨hsz, hP, hK, hD0⟩, hN⟩ := hv
  have hx := B.exec
  have hb := B.bytes
  have hr := B.returns
  have hts := atoms_spec (ws := wsX8_count) B.pre
  have hown : s.vm.findClass RX8 = some m.cls := findClass_of_methodNamed B.named
  have hlocks := B.notSynchronized
  subst hsz
  have hD := hD0.self (sz := s.heap.size)
  generalize hAe : va_A (f1W G A C ++ (bcW G a b none ++ (swsW G a b.sw ++ Wr))) s.heap.size = AA at hD ⊢
  have hA : ∀ q : Nat, s.heap.size ≤ q → AA q := fun q h => by rw [← hAe]; exact Or.inr h
  have hS : va_S AA s.heap s.heap [] := va_S.rf
  have pq : (f1W G A C ++ (bcW G a b none ++ (swsW G a b.sw ++ Wr))).Perm (bcW G a b none ++ (swsW G a b.sw ++ (f1W G A C ++ Wr))) := fl_perm [f1W G A C, bcW G a b none, swsW G a b.sw] (is := [0, 1, 2]) (js := [1, 2, 0]) Wr (by decide)
  have hl := lv_entry ([.ref A.h, .int p1, .int p2]) (n := 4) (Nat.le_of_ble_eq_true rfl)
  rw [lg_entry_eq]
  generalize (lg_sl ([.ref A.h, .int p1, .int p2]) ++ List.replicate (4 - (lg_sl ([.ref A.h, .int p1, .int p2])).length) Slot.unset).toArray = ls at hl ⊢
  have hl : lv_has ls 4 [(0, .ref A.h), (1, .int p1), (2, .int p2)] := hl
  unfold fX8_count_c at hF
  refine lv_aload_n hx hb dX8_count_0 rfl (lv_at hl 0 rfl) ?_
  refine lv_iload_n hx hb dX8_count_1 rfl (lv_at hl 1 rfl) ?_
  obtain ⟨v_1, hv_1, hF⟩ := bd_s hF
  refine ro_qe (va_runV (As := [.int p1]) (rest := []) ⟨hx, hb, hml, hown, hts⟩ (kX8_find_F l G A.h A.qb A.d A.qs A.m a.f C.bc A.RB p1 (by assumption) v_1 hv_1) (cwV 1 hts gX8_count_X8_find rfl rfl rfl (by decide +kernel) ⟨Nat.le_of_ble_eq_true rfl, Nat.le_of_ble_eq_true rfl⟩) (pvR (q0 := 0) 8 hK (hP.sub (ws' := (wXB G A.h A.qb A.d A.qs A.m A.m C.bc A.RB)) [0, 6] rfl) rfl rfl) rfl rfl hl.1 rfl (lv_room (Nat.le_of_ble_eq_true rfl)) dX8_count_2 ⟨Nat.le_of_ble_eq_true rfl, Nat.le_of_ble_eq_true rfl⟩) ?_
  refine lv_astore_n (lv' := [(3, .ref a.f), (0, .ref A.h), (1, .int p1), (2, .int p2)]) hx hb dX8_count_5 rfl hl (by decide) rfl (fun ls hl => ?_)
  refine lv_aload_n hx hb dX8_count_6 rfl (lv_at hl 0 rfl) ?_
  refine lv_ifnull hx hb dX8_count_7 ?_
  refine lv_iload_n hx hb dX8_count_10 rfl (lv_at hl 3 rfl) ?_
  refine lv_if_lt (tgt := 19) hx hb dX8_count_11 (by decide) (fun c_2 => ?_) (fun c_2 => ?_)
  · replace hF := it_p c_2 hF
    refine lv_iconst (v := (-1)) hx hb dX8_count_19 (by decide) ?_
    refine W.widen (k := 10) (n := 260) (Nat.le_of_ble_eq_true rfl) (Nat.le_of_ble_eq_true rfl) ?_
    exact W.iret (v := (-1)) hx hb hr (fun t ht hW => ⟨⟨some (.int (-1)), _, rfl, ⟨congrArg (fun z => some (Value.int z)) (so_e hF), Or.inl rfl⟩, qW_mk ht hP hK hW hD⟩, hS.F ht⟩) hS.2.2 dX8_count_20
  · replace hF := it_n c_2 hF
    refine lv_iload_n hx hb dX8_count_14 rfl (lv_at hl 3 rfl) ?_
    refine lv_iconst (v := 5) hx hb dX8_count_15 (by decide) ?_
    refine lv_icmp_le (tgt := 21) hx hb dX8_count_16 (by decide) (fun c_3 => ?_) (fun c_3 => ?_)
    · replace hF := it_p c_3 hF
      refine lv_aload_n hx hb dX8_count_21 rfl (lv_at hl 0 rfl) ?_
      obtain ⟨v_4, hv_4, hF⟩ := bd_s hF
      have hke : KE l yX0_growth wsX0_growth [.ref a.f] G (bcW G a b none ++ (swsW G a b.sw ++ (f1W G A C ++ Wr))) _ 6 160 10 260 := KE.of (KX0_growth l G a b hok gres hG (f1W G A C ++ Wr)) rfl rfl (by decide)
      refine ke_V (q0 := 0) (As := []) (rest := []) 0 hke ⟨hx, hb, hml, hown, hts⟩ (fun rm mc ms h1 h2 h3 h4 => cwV 0 hts gX8_count_X0_growth rfl h1 h2 (by decide +kernel) ⟨Nat.le_trans (Nat.add_le_add_right h3 1) (Nat.le_of_ble_eq_true rfl), Nat.le_trans (Nat.add_le_add_left h4 _) (Nat.le_of_ble_eq_true rfl)⟩) hK hN (vP_perm pq hP) (vD_perm pq hD) hS hA rfl rfl rfl hl.1 rfl (lv_room (Nat.le_of_ble_eq_true rfl)) dX8_count_22 ⟨Nat.le_of_ble_eq_true rfl, Nat.le_of_ble_eq_true rfl⟩ (fun v w H locs hQ hP hD hS => ?_)
      obtain ⟨RW2, w2, wb2, o, an, hok2, rfl, rfl⟩ := hQ
      refine lv_iload_n hx hb dX8_count_25 rfl (lv_at hl 3 rfl) ?_
      refine lv_i2l hx hb dX8_count_26 rfl ?_
      obtain ⟨v_5, hv_5, hF⟩ := bd_s hF
      refine ro_le (va_runV (As := [.long p2.toInt64]) (rest := []) ⟨hx, hb, hml, hown, hts⟩ (kX2_at l G o an gres.1 gres.2.1 p2.toInt64 v_5 hv_5) (cwV 1 hts gX8_count_X2_at rfl rfl rfl (by decide +kernel) ⟨Nat.le_of_ble_eq_true rfl, Nat.le_of_ble_eq_true rfl⟩) (pvR (q0 := 0) 2 hK (hP.sub (ws' := (wGro G o an gres.1 gres.2.1)) [18, 19] rfl) rfl rfl) rfl rfl hl.1 rfl (lv_room (Nat.le_of_ble_eq_true rfl)) dX8_count_27 ⟨Nat.le_of_ble_eq_true rfl, Nat.le_of_ble_eq_true rfl⟩) ?_
      refine lv_l2i hx hb dX8_count_30 rfl ?_
      exact W.iret (v := v_5.toInt32) hx hb hr (fun t ht hW => ⟨⟨some (.int v_5.toInt32), _, rfl, ⟨congrArg (fun z => some (Value.int z)) (so_e hF), Or.inr ⟨RW2, w2, wb2, o, an, hok2, rfl⟩⟩, qW_mk ht hP hK hW hD⟩, hS.F ht⟩) hS.2.2 dX8_count_31
    · replace hF := it_n c_3 hF
      refine lv_iconst (v := (-1)) hx hb dX8_count_19 (by decide) ?_
      refine W.widen (k := 10) (n := 260) (Nat.le_of_ble_eq_true rfl) (Nat.le_of_ble_eq_true rfl) ?_
      exact W.iret (v := (-1)) hx hb hr (fun t ht hW => ⟨⟨some (.int (-1)), _, rfl, ⟨congrArg (fun z => some (Value.int z)) (so_e hF), Or.inl rfl⟩, qW_mk ht hP hK hW hD⟩, hS.F ht⟩) hS.2.2 dX8_count_20
abbrev rX8_inner_g : Room := { frames := 7, cells := 10, slots := 260, locals := 190 }
set_option maxHeartbeats 40000000 in
set_option maxRecDepth 100000 in
theorem KX8_inner_g (l : Launch) (G : GT) (A : XAd) (C : XCt) (a : BAd) (b : BCt) (p1 p2 : Int32) (hq : A.RB p1.toNatClampNeg = some a.f) (hok : bok a b) (gres : Int32 × (Nat → Int32) × BCt) (hG : fgrow b = some gres) (res : Int32) (hF : fX8_inner_c C.bc b.fl gres.2.1 p1 p2 = some res) (Wr : va_W) : KM l yX8_inner wsX8_inner rX8_inner_g [.ref A.h, .int p1, .int p2] G (f1W G A C ++ (bcW G a b none ++ (swsW G a b.sw ++ Wr))) (gmQ G A C a b gres Wr (some (.int res))) 10 260 := by
  intro sz
  show Met l _ _ _ _ (kmQ G (va_A (f1W G A C ++ (bcW G a b none ++ (swsW G a b.sw ++ Wr))) sz) (gmQ G A C a b gres Wr (some (.int res)))) _ _ _
  refine Met.ofW (cc := cX8_inner) (maxL := 5) (ret := (some .int)) (by decide) rfl ?_
  intro p e s m args below meth c s₁ B hml hv
  obtain ⟨rfl, ⟨hsz, hP, hK, hD0⟩, hN⟩ := hv
  have hx := B.exec
  have hb := B.bytes
  have hr := B.returns
  have hts := atoms_spec (ws := wsX8_inner) B.pre
  have hown : s.vm.findClass RX8 = some m.cls := findClass_of_methodNamed B.named
  have hlocks := B.notSynchronized
  have hin0 : ∀ w ∈ u_ws RX0 TX0 9, w ∈ wsX8_inner := by decide +kernel
  have hfl97 := hts (.fieldLink RX8 97 "SwellBodies$Body" "fills" "I") (by decide +kernel)
  subst hsz
  have hD := hD0.self (sz := s.heap.size)
  generalize hAe : va_A (f1W G A C ++ (bcW G a b none ++ (swsW G a b.sw ++ Wr))) s.heap.size = AA at hD ⊢
  have hA : ∀ q : Nat, s.heap.size ≤ q → AA q := fun q h => by rw [← hAe]; exact Or.inr h
  have hS : va_S AA s.heap s.heap [] := va_S.rf
  have pq : (f1W G A C ++ (bcW G a b none ++ (swsW G a b.sw ++ Wr))).Perm (bcW G a b none ++ (swsW G a b.sw ++ (f1W G A C ++ Wr))) := fl_perm [f1W G A C, bcW G a b none, swsW G a b.sw] (is := [0, 1, 2]) (js := [1, 2, 0]) Wr (by decide)
  have hl := lv_entry ([.ref A.h, .int p1, .int p2]) (n := 5) (Nat.le_of_ble_eq_true rfl)
  rw [lg_entry_eq]
  generalize (lg_sl ([.ref A.h, .int p1, .int p2]) ++ List.replicate (5 - (lg_sl ([.ref A.h, .int p1, .int p2])).length) Slot.unset).toArray = ls at hl ⊢
  have hl : lv_has ls 5 [(0, .ref A.h), (1, .int p1), (2, .int p2)] := hl
  unfold fX8_inner_c at hF
  refine lv_aload_n hx hb dX8_inner_0 rfl (lv_at hl 0 rfl) ?_
  refine lv_iload_n hx hb dX8_inner_1 rfl (lv_at hl 1 rfl) ?_
  obtain ⟨v_1, hv_1, hF⟩ := bd_s hF
  refine ro_qe (va_runV (As := [.int p1]) (rest := []) ⟨hx, hb, hml, hown, hts⟩ (kX8_find_F l G A.h A.qb A.d A.qs A.m a.f C.bc A.RB p1 (by assumption) v_1 hv_1) (cwV 1 hts gX8_inner_X8_find rfl rfl rfl (by decide +kernel) ⟨Nat.le_of_ble_eq_true rfl, Nat.le_of_ble_eq_true rfl⟩) (pvR (q0 := 0) 8 hK (hP.sub (ws' := (wXB G A.h A.qb A.d A.qs A.m A.m C.bc A.RB)) [0, 6] rfl) rfl rfl) rfl rfl hl.1 rfl (lv_room (Nat.le_of_ble_eq_true rfl)) dX8_inner_2 ⟨Nat.le_of_ble_eq_true rfl, Nat.le_of_ble_eq_true rfl⟩) ?_
  refine lv_astore_n (lv' := [(3, .ref a.f), (0, .ref A.h), (1, .int p1), (2, .int p2)]) hx hb dX8_inner_5 rfl hl (by decide) rfl (fun ls hl => ?_)
  refine lv_aload_n hx hb dX8_inner_6 rfl (lv_at hl 0 rfl) ?_
  refine lv_ifnull hx hb dX8_inner_7 ?_
  refine lv_iload_n hx hb dX8_inner_10 rfl (lv_at hl 3 rfl) ?_
  obtain ⟨v_2, hv_2, hF⟩ := bd_s hF
  refine ro_ze (va_runS (As := [.int p2]) (rest := []) ⟨hx, hb, hml, hown, hts⟩ (kX8_isSwelling l G p2 v_2 hv_2) (va_cwS 1 hts gX8_inner_X8_isSwelling rfl rfl rfl (by decide +kernel) ⟨Nat.le_of_ble_eq_true rfl, Nat.le_of_ble_eq_true rfl⟩) (psR hK (hP.sub (ws' := ([] : va_W)) [] rfl)) rfl rfl hl.1 rfl (lv_room (Nat.le_of_ble_eq_true rfl)) dX8_inner_11 ⟨Nat.le_of_ble_eq_true rfl, Nat.le_of_ble_eq_true rfl⟩) (fun hb_3 => ?_)
  refine lv_if_ne (tgt := 19) hx hb dX8_inner_14 (by decide) (fun c_4 => ?_) (fun c_4 => ?_)
  · replace hF := it_n c_4 hF
    refine lv_aload_n hx hb dX8_inner_19 rfl (lv_at hl 0 rfl) ?_
    obtain ⟨v_5, hv_5, hF⟩ := bd_s hF
    have hke : KE l yX0_growth wsX0_growth [.ref a.f] G (bcW G a b none ++ (swsW G a b.sw ++ (f1W G A C ++ Wr))) _ 6 160 10 260 := KE.of (KX0_growth l G a b hok gres hG (f1W G A C ++ Wr)) rfl rfl (by decide)
    refine ke_V (q0 := 0) (As := []) (rest := []) 0 hke ⟨hx, hb, hml, hown, hts⟩ (fun rm mc ms h1 h2 h3 h4 => cwV 0 hts gX8_inner_X0_growth rfl h1 h2 (by decide +kernel) ⟨Nat.le_trans (Nat.add_le_add_right h3 1) (Nat.le_of_ble_eq_true rfl), Nat.le_trans (Nat.add_le_add_left h4 _) (Nat.le_of_ble_eq_true rfl)⟩) hK hN (vP_perm pq hP) (vD_perm pq hD) hS hA rfl rfl rfl hl.1 rfl (lv_room (Nat.le_of_ble_eq_true rfl)) dX8_inner_20 ⟨Nat.le_of_ble_eq_true rfl, Nat.le_of_ble_eq_true rfl⟩ (fun v w H locs hQ hP hD hS => ?_)
    obtain ⟨RW2, w2, wb2, o, an, hok2, rfl, rfl⟩ := hQ
    refine lv_iload_n hx hb dX8_inner_23 rfl (lv_at hl 3 rfl) ?_
    refine lv_ineg hx hb dX8_inner_24 ?_
    refine lv_i2l hx hb dX8_inner_25 rfl ?_
    obtain ⟨v_6, hv_6, hF⟩ := bd_s hF
    refine ro_le (va_runV (As := [.long ((-p2).toInt64)]) (rest := []) ⟨hx, hb, hml, hown, hts⟩ (kX2_at l G o an gres.1 gres.2.1 ((-p2).toInt64) v_6 hv_6) (cwV 1 hts gX8_inner_X2_at rfl rfl rfl (by decide +kernel) ⟨Nat.le_of_ble_eq_true rfl, Nat.le_of_ble_eq_true rfl⟩) (pvR (q0 := 0) 2 hK (hP.sub (ws' := (wGro G o an gres.1 gres.2.1)) [18, 19] rfl) rfl rfl) rfl rfl hl.1 rfl (lv_room (Nat.le_of_ble_eq_true rfl)) dX8_inner_26 ⟨Nat.le_of_ble_eq_true rfl, Nat.le_of_ble_eq_true rfl⟩) ?_
    refine lv_l2i hx hb dX8_inner_29 rfl ?_
    refine lv_istore (lv' := [(4, .int v_6.toInt32), (3, .ref a.f), (0, .ref A.h), (1, .int p1), (2, .int p2)]) hx hb dX8_inner_30 hl (by decide) rfl (fun ls hl => ?_)
    refine lv_aload_n hx hb dX8_inner_32 rfl (lv_at hl 1 rfl) ?_
    refine va_get (ci := 0) (v := .int b.fl) (C := RX0) (T := TX0) (N := 9) hx hb hts hin0 hown hK hP 0 rfl rfl 0 (by decide) hfl97 (fun _ h9 => h9) rfl dX8_inner_33 ?_
    refine lv_iconst (v := 2) hx hb dX8_inner_36 (by decide) ?_
    refine lv_irem hx hb dX8_inner_37 (by decide) ?_
    refine lv_if_ne (tgt := 46) hx hb dX8_inner_38 (by decide) (fun c_7 => ?_) (fun c_7 => ?_)
    · replace hF := it_n c_7 hF
      refine lv_iload hx hb dX8_inner_46 (lv_at hl 0 rfl) ?_
      refine lv_ineg hx hb dX8_inner_48 ?_
      exact W.iret (v := -v_6.toInt32) hx hb hr (fun t ht hW => ⟨⟨some (.int (-v_6.toInt32)), _, rfl, ⟨congrArg (fun z => some (Value.int z)) (so_e hF), Or.inr ⟨RW2, w2, wb2, o, an, hok2, rfl⟩⟩, qW_mk ht hP hK hW hD⟩, hS.F ht⟩) hS.2.2 dX8_inner_49
    · replace hF := it_p c_7 hF
      refine lv_iload hx hb dX8_inner_41 (lv_at hl 0 rfl) ?_
      refine lv_goto (tgt := 49) hx hb dX8_inner_43 (by decide) ?_
      exact W.iret (v := v_6.toInt32) hx hb hr (fun t ht hW => ⟨⟨some (.int v_6.toInt32), _, rfl, ⟨congrArg (fun z => some (Value.int z)) (so_e hF), Or.inr ⟨RW2, w2, wb2, o, an, hok2, rfl⟩⟩, qW_mk ht hP hK hW hD⟩, hS.F ht⟩) hS.2.2 dX8_inner_49
  · replace hF := it_p c_4 hF
    refine lv_iconst (v := (-1)) hx hb dX8_inner_17 (by decide) ?_
    refine W.widen (k := 10) (n := 260) (Nat.le_of_ble_eq_true rfl) (Nat.le_of_ble_eq_true rfl) ?_
    exact W.iret (v := (-1)) hx hb hr (fun t ht hW => ⟨⟨some (.int (-1)), _, rfl, ⟨congrArg (fun z => some (Value.int z)) (so_e hF), Or.inl rfl⟩, qW_mk ht hP hK hW hD⟩, hS.F ht⟩) hS.2.2 dX8_inner_18
abbrev rX8_number_g : Room := { frames := 7, cells := 10, slots := 260, locals := 190 }
set_option maxHeartbeats 40000000 in
set_option maxRecDepth 100000 in
theorem KX8_number_g (l : Launch) (G : GT) (A : XAd) (C : XCt) (a : BAd) (b : BCt) (p1 p2 : Int32) (hq : A.RB p1.toNatClampNeg = some a.f) (hok : bok a b) (gres : Int32 × (Nat → Int32) × BCt) (hG : fgrow b = some gres) (res : Int32) (hF : fX8_number_c C.bc gres.2.1 p1 p2 = some res) (Wr : va_W) : KM l yX8_number wsX8_number rX8_number_g [.ref A.h, .int p1, .int p2] G (f1W G A C ++ (bcW G a b none ++ (swsW G a b.sw ++ Wr))) (gmQ G A C a b gres Wr (some (.int res))) 10 260 := by
  intro sz
  show Met l _ _ _ _ (kmQ G (va_A (f1W G A C ++ (bcW G a b none ++ (swsW G a b.sw ++ Wr))) sz) (gmQ G A C a b gres Wr (some (.int res)))) _ _ _
  refine Met.ofW (cc := cX8_number) (maxL := 4) (ret := (some .int)) (by decide) rfl ?_
  intro p e s m args below meth c s₁ B hml hv
  obtain ⟨rfl, ⟨hsz, hP, hK, hD0⟩, hN⟩ := hv
  have hx := B.exec
  have hb := B.bytes
  have hr := B.returns
  have hts := atoms_spec (ws := wsX8_number) B.pre
  have hown : s.vm.findClass RX8 = some m.cls := findClass_of_methodNamed B.named
  have hlocks := B.notSynchronized
  have hcn150 := hts (.constant RX8 150 (-1000000)) (by decide +kernel)
  have hin2 : ∀ w ∈ u_ws RX2 TX2 2, w ∈ wsX8_number := by decide +kernel
  have hfl151 := hts (.fieldLink RX8 151 "SwellBodies$Growth" "numbers" "[I") (by decide +kernel)
  subst hsz
  have hD := hD0.self (sz := s.heap.size)
  generalize hAe : va_A (f1W G A C ++ (bcW G a b none ++ (swsW G a b.sw ++ Wr))) s.heap.size = AA at hD ⊢
  have hA : ∀ q : Nat, s.heap.size ≤ q → AA q := fun q h => by rw [← hAe]; exact Or.inr h
  have hS : va_S AA s.heap s.heap [] := va_S.rf
  have pq : (f1W G A C ++ (bcW G a b none ++ (swsW G a b.sw ++ Wr))).Perm (bcW G a b none ++ (swsW G a b.sw ++ (f1W G A C ++ Wr))) := fl_perm [f1W G A C, bcW G a b none, swsW G a b.sw] (is := [0, 1, 2]) (js := [1, 2, 0]) Wr (by decide)
  have hl := lv_entry ([.ref A.h, .int p1, .int p2]) (n := 4) (Nat.le_of_ble_eq_true rfl)
  rw [lg_entry_eq]
  generalize (lg_sl ([.ref A.h, .int p1, .int p2]) ++ List.replicate (4 - (lg_sl ([.ref A.h, .int p1, .int p2])).length) Slot.unset).toArray = ls at hl ⊢
  have hl : lv_has ls 4 [(0, .ref A.h), (1, .int p1), (2, .int p2)] := hl
  unfold fX8_number_c at hF
  refine lv_aload_n hx hb dX8_number_0 rfl (lv_at hl 0 rfl) ?_
  refine lv_iload_n hx hb dX8_number_1 rfl (lv_at hl 1 rfl) ?_
  obtain ⟨v_1, hv_1, hF⟩ := bd_s hF
  refine ro_qe (va_runV (As := [.int p1]) (rest := []) ⟨hx, hb, hml, hown, hts⟩ (kX8_find_F l G A.h A.qb A.d A.qs A.m a.f C.bc A.RB p1 (by assumption) v_1 hv_1) (cwV 1 hts gX8_number_X8_find rfl rfl rfl (by decide +kernel) ⟨Nat.le_of_ble_eq_true rfl, Nat.le_of_ble_eq_true rfl⟩) (pvR (q0 := 0) 8 hK (hP.sub (ws' := (wXB G A.h A.qb A.d A.qs A.m A.m C.bc A.RB)) [0, 6] rfl) rfl rfl) rfl rfl hl.1 rfl (lv_room (Nat.le_of_ble_eq_true rfl)) dX8_number_2 ⟨Nat.le_of_ble_eq_true rfl, Nat.le_of_ble_eq_true rfl⟩) ?_
  refine lv_astore_n (lv' := [(3, .ref a.f), (0, .ref A.h), (1, .int p1), (2, .int p2)]) hx hb dX8_number_5 rfl hl (by decide) rfl (fun ls hl => ?_)
  refine lv_aload_n hx hb dX8_number_6 rfl (lv_at hl 0 rfl) ?_
  refine lv_ifnull hx hb dX8_number_7 ?_
  refine lv_iload_n hx hb dX8_number_10 rfl (lv_at hl 3 rfl) ?_
  refine lv_if_lt (tgt := 19) hx hb dX8_number_11 (by decide) (fun c_2 => ?_) (fun c_2 => ?_)
  · replace hF := it_p c_2 hF
    refine lv_ldc (v := (-1000000)) hx hb hown hcn150 dX8_number_19 ?_
    refine W.widen (k := 10) (n := 260) (Nat.le_of_ble_eq_true rfl) (Nat.le_of_ble_eq_true rfl) ?_
    exact W.iret (v := (-1000000)) hx hb hr (fun t ht hW => ⟨⟨some (.int (-1000000)), _, rfl, ⟨congrArg (fun z => some (Value.int z)) (so_e hF), Or.inl rfl⟩, qW_mk ht hP hK hW hD⟩, hS.F ht⟩) hS.2.2 dX8_number_21
  · replace hF := it_n c_2 hF
    refine lv_iload_n hx hb dX8_number_14 rfl (lv_at hl 3 rfl) ?_
    refine lv_iconst (v := 3) hx hb dX8_number_15 (by decide) ?_
    refine lv_icmp_le (tgt := 22) hx hb dX8_number_16 (by decide) (fun c_3 => ?_) (fun c_3 => ?_)
    · replace hF := it_p c_3 hF
      refine lv_aload_n hx hb dX8_number_22 rfl (lv_at hl 0 rfl) ?_
      obtain ⟨v_4, hv_4, hF⟩ := bd_s hF
      have hke : KE l yX0_growth wsX0_growth [.ref a.f] G (bcW G a b none ++ (swsW G a b.sw ++ (f1W G A C ++ Wr))) _ 6 160 10 260 := KE.of (KX0_growth l G a b hok gres hG (f1W G A C ++ Wr)) rfl rfl (by decide)
      refine ke_V (q0 := 0) (As := []) (rest := []) 0 hke ⟨hx, hb, hml, hown, hts⟩ (fun rm mc ms h1 h2 h3 h4 => cwV 0 hts gX8_number_X0_growth rfl h1 h2 (by decide +kernel) ⟨Nat.le_trans (Nat.add_le_add_right h3 1) (Nat.le_of_ble_eq_true rfl), Nat.le_trans (Nat.add_le_add_left h4 _) (Nat.le_of_ble_eq_true rfl)⟩) hK hN (vP_perm pq hP) (vD_perm pq hD) hS hA rfl rfl rfl hl.1 rfl (lv_room (Nat.le_of_ble_eq_true rfl)) dX8_number_23 ⟨Nat.le_of_ble_eq_true rfl, Nat.le_of_ble_eq_true rfl⟩ (fun v w H locs hQ hP hD hS => ?_)
      obtain ⟨RW2, w2, wb2, o, an, hok2, rfl, rfl⟩ := hQ
      refine va_get (ci := 2) (v := .ref an) (C := RX2) (T := TX2) (N := 2) hx hb hts hin2 hown hK hP 18 rfl rfl 0 (by decide) hfl151 (fun _ h9 => h9) rfl dX8_number_26 ?_
      refine lv_iload_n hx hb dX8_number_29 rfl (lv_at hl 3 rfl) ?_
      obtain ⟨hi_5, hF⟩ := gd_in_s hF
      refine va_iald hx hb hK hP 19 0 rfl rfl hi_5 dX8_number_30 ?_
      exact W.iret (v := gres.2.1 p2.toNatClampNeg) hx hb hr (fun t ht hW => ⟨⟨some (.int (gres.2.1 p2.toNatClampNeg)), _, rfl, ⟨congrArg (fun z => some (Value.int z)) (so_e hF), Or.inr ⟨RW2, w2, wb2, o, an, hok2, rfl⟩⟩, qW_mk ht hP hK hW hD⟩, hS.F ht⟩) hS.2.2 dX8_number_31
    · replace hF := it_n c_3 hF
      refine lv_ldc (v := (-1000000)) hx hb hown hcn150 dX8_number_19 ?_
      refine W.widen (k := 10) (n := 260) (Nat.le_of_ble_eq_true rfl) (Nat.le_of_ble_eq_true rfl) ?_
      exact W.iret (v := (-1000000)) hx hb hr (fun t ht hW => ⟨⟨some (.int (-1000000)), _, rfl, ⟨congrArg (fun z => some (Value.int z)) (so_e hF), Or.inl rfl⟩, qW_mk ht hP hK hW hD⟩, hS.F ht⟩) hS.2.2 dX8_number_21
abbrev rX8_rule_g : Room := { frames := 7, cells := 10, slots := 260, locals := 190 }
set_option maxHeartbeats 40000000 in
set_option maxRecDepth 100000 in
theorem KX8_rule_g (l : Launch) (G : GT) (A : XAd) (C : XCt) (a : BAd) (b : BCt) (p1 p2 : Int32) (hq : A.RB p1.toNatClampNeg = some a.f) (hok : bok a b) (gres : Int32 × (Nat → Int32) × BCt) (hG : fgrow b = some gres) (res : Int64) (hF : fX8_rule_c C.bc gres.2.1 p1 p2 = some res) (Wr : va_W) : KM l yX8_rule wsX8_rule rX8_rule_g [.ref A.h, .int p1, .int p2] G (f1W G A C ++ (bcW G a b none ++ (swsW G a b.sw ++ Wr))) (gmQ G A C a b gres Wr (some (.long res))) 10 260 := by
  intro sz
  show Met l _ _ _ _ (kmQ G (va_A (f1W G A C ++ (bcW G a b none ++ (swsW G a b.sw ++ Wr))) sz) (gmQ G A C a b gres Wr (some (.long res)))) _ _ _
  refine Met.ofW (cc := cX8_rule) (maxL := 4) (ret := (some .long)) (by decide) rfl ?_
  intro p e s m args below meth c s₁ B hml hv
  obtain ⟨rfl, ⟨hsz, hP, hK, hD0⟩, hN⟩ := hv
  have hx := B.exec
  have hb := B.bytes
  have hr := B.returns
  have hts := atoms_spec (ws := wsX8_rule) B.pre
  have hown : s.vm.findClass RX8 = some m.cls := findClass_of_methodNamed B.named
  have hlocks := B.notSynchronized
  have hcn155 := hts (.constantLong RX8 155 (-1)) (by decide +kernel)
  subst hsz
  have hD := hD0.self (sz := s.heap.size)
  generalize hAe : va_A (f1W G A C ++ (bcW G a b none ++ (swsW G a b.sw ++ Wr))) s.heap.size = AA at hD ⊢
  have hA : ∀ q : Nat, s.heap.size ≤ q → AA q := fun q h => by rw [← hAe]; exact Or.inr h
  have hS : va_S AA s.heap s.heap [] := va_S.rf
  have pq : (f1W G A C ++ (bcW G a b none ++ (swsW G a b.sw ++ Wr))).Perm (bcW G a b none ++ (swsW G a b.sw ++ (f1W G A C ++ Wr))) := fl_perm [f1W G A C, bcW G a b none, swsW G a b.sw] (is := [0, 1, 2]) (js := [1, 2, 0]) Wr (by decide)
  have hl := lv_entry ([.ref A.h, .int p1, .int p2]) (n := 4) (Nat.le_of_ble_eq_true rfl)
  rw [lg_entry_eq]
  generalize (lg_sl ([.ref A.h, .int p1, .int p2]) ++ List.replicate (4 - (lg_sl ([.ref A.h, .int p1, .int p2])).length) Slot.unset).toArray = ls at hl ⊢
  have hl : lv_has ls 4 [(0, .ref A.h), (1, .int p1), (2, .int p2)] := hl
  unfold fX8_rule_c at hF
  refine lv_aload_n hx hb dX8_rule_0 rfl (lv_at hl 0 rfl) ?_
  refine lv_iload_n hx hb dX8_rule_1 rfl (lv_at hl 1 rfl) ?_
  obtain ⟨v_1, hv_1, hF⟩ := bd_s hF
  refine ro_qe (va_runV (As := [.int p1]) (rest := []) ⟨hx, hb, hml, hown, hts⟩ (kX8_find_F l G A.h A.qb A.d A.qs A.m a.f C.bc A.RB p1 (by assumption) v_1 hv_1) (cwV 1 hts gX8_rule_X8_find rfl rfl rfl (by decide +kernel) ⟨Nat.le_of_ble_eq_true rfl, Nat.le_of_ble_eq_true rfl⟩) (pvR (q0 := 0) 8 hK (hP.sub (ws' := (wXB G A.h A.qb A.d A.qs A.m A.m C.bc A.RB)) [0, 6] rfl) rfl rfl) rfl rfl hl.1 rfl (lv_room (Nat.le_of_ble_eq_true rfl)) dX8_rule_2 ⟨Nat.le_of_ble_eq_true rfl, Nat.le_of_ble_eq_true rfl⟩) ?_
  refine lv_astore_n (lv' := [(3, .ref a.f), (0, .ref A.h), (1, .int p1), (2, .int p2)]) hx hb dX8_rule_5 rfl hl (by decide) rfl (fun ls hl => ?_)
  refine lv_aload_n hx hb dX8_rule_6 rfl (lv_at hl 0 rfl) ?_
  refine lv_ifnull hx hb dX8_rule_7 ?_
  refine lv_iload_n hx hb dX8_rule_10 rfl (lv_at hl 3 rfl) ?_
  refine lv_i2l hx hb dX8_rule_11 rfl ?_
  refine lv_sipush (v := 1000) hx hb dX8_rule_12 (by decide) ?_
  obtain ⟨v_2, hv_2, hF⟩ := bd_s hF
  refine ro_ze (va_runS (As := [.long p2.toInt64, .int 1000]) (rest := []) ⟨hx, hb, hml, hown, hts⟩ (kX8_isAmong l G p2.toInt64 1000 v_2 hv_2) (va_cwS 2 hts gX8_rule_X8_isAmong rfl rfl rfl (by decide +kernel) ⟨Nat.le_of_ble_eq_true rfl, Nat.le_of_ble_eq_true rfl⟩) (psR hK (hP.sub (ws' := ([] : va_W)) [] rfl)) rfl rfl hl.1 rfl (lv_room (Nat.le_of_ble_eq_true rfl)) dX8_rule_15 ⟨Nat.le_of_ble_eq_true rfl, Nat.le_of_ble_eq_true rfl⟩) (fun hb_3 => ?_)
  refine lv_if_ne (tgt := 25) hx hb dX8_rule_18 (by decide) (fun c_4 => ?_) (fun c_4 => ?_)
  · replace hF := it_n c_4 hF
    refine lv_aload_n hx hb dX8_rule_25 rfl (lv_at hl 0 rfl) ?_
    obtain ⟨v_5, hv_5, hF⟩ := bd_s hF
    have hke : KE l yX0_growth wsX0_growth [.ref a.f] G (bcW G a b none ++ (swsW G a b.sw ++ (f1W G A C ++ Wr))) _ 6 160 10 260 := KE.of (KX0_growth l G a b hok gres hG (f1W G A C ++ Wr)) rfl rfl (by decide)
    refine ke_V (q0 := 0) (As := []) (rest := []) 0 hke ⟨hx, hb, hml, hown, hts⟩ (fun rm mc ms h1 h2 h3 h4 => cwV 0 hts gX8_rule_X0_growth rfl h1 h2 (by decide +kernel) ⟨Nat.le_trans (Nat.add_le_add_right h3 1) (Nat.le_of_ble_eq_true rfl), Nat.le_trans (Nat.add_le_add_left h4 _) (Nat.le_of_ble_eq_true rfl)⟩) hK hN (vP_perm pq hP) (vD_perm pq hD) hS hA rfl rfl rfl hl.1 rfl (lv_room (Nat.le_of_ble_eq_true rfl)) dX8_rule_26 ⟨Nat.le_of_ble_eq_true rfl, Nat.le_of_ble_eq_true rfl⟩ (fun v w H locs hQ hP hD hS => ?_)
    obtain ⟨RW2, w2, wb2, o, an, hok2, rfl, rfl⟩ := hQ
    refine lv_iload_n hx hb dX8_rule_29 rfl (lv_at hl 3 rfl) ?_
    refine lv_i2l hx hb dX8_rule_30 rfl ?_
    obtain ⟨v_6, hv_6, hF⟩ := bd_s hF
    refine ro_le (va_runV (As := [.long p2.toInt64]) (rest := []) ⟨hx, hb, hml, hown, hts⟩ (kX2_at l G o an gres.1 gres.2.1 p2.toInt64 v_6 hv_6) (cwV 1 hts gX8_rule_X2_at rfl rfl rfl (by decide +kernel) ⟨Nat.le_of_ble_eq_true rfl, Nat.le_of_ble_eq_true rfl⟩) (pvR (q0 := 0) 2 hK (hP.sub (ws' := (wGro G o an gres.1 gres.2.1)) [18, 19] rfl) rfl rfl) rfl rfl hl.1 rfl (lv_room (Nat.le_of_ble_eq_true rfl)) dX8_rule_31 ⟨Nat.le_of_ble_eq_true rfl, Nat.le_of_ble_eq_true rfl⟩) ?_
    exact W.lret (v := v_6) hx hb hr (fun t ht hW => ⟨⟨some (.long v_6), _, rfl, ⟨congrArg (fun z => some (Value.long z)) (so_e hF), Or.inr ⟨RW2, w2, wb2, o, an, hok2, rfl⟩⟩, qW_mk ht hP hK hW hD⟩, hS.F ht⟩) hS.2.2 dX8_rule_34
  · replace hF := it_p c_4 hF
    refine lv_ldc2 (v := (-1)) hx hb hown hcn155 dX8_rule_21 ?_
    refine W.widen (k := 10) (n := 260) (Nat.le_of_ble_eq_true rfl) (Nat.le_of_ble_eq_true rfl) ?_
    exact W.lret (v := (-1)) hx hb hr (fun t ht hW => ⟨⟨some (.long (-1)), _, rfl, ⟨congrArg (fun z => some (Value.long z)) (so_e hF), Or.inl rfl⟩, qW_mk ht hP hK hW hD⟩, hS.F ht⟩) hS.2.2 dX8_rule_24
abbrev rX8_stairs_g : Room := { frames := 7, cells := 10, slots := 260, locals := 190 }
set_option maxHeartbeats 40000000 in
set_option maxRecDepth 100000 in
theorem KX8_stairs_g (l : Launch) (G : GT) (A : XAd) (C : XCt) (a : BAd) (b : BCt) (p1 p2 : Int32) (hq : A.RB p1.toNatClampNeg = some a.f) (hok : bok a b) (gres : Int32 × (Nat → Int32) × BCt) (hG : fgrow b = some gres) (res : Int32) (hF : fX8_stairs_c C.bc b.fl gres.1 gres.2.1 p1 p2 = some res) (Wr : va_W) : KM l yX8_stairs wsX8_stairs rX8_stairs_g [.ref A.h, .int p1, .int p2] G (f1W G A C ++ (bcW G a b none ++ (swsW G a b.sw ++ Wr))) (gmQ G A C a b gres Wr (some (.int res))) 10 260 := by
  intro sz
  show Met l _ _ _ _ (kmQ G (va_A (f1W G A C ++ (bcW G a b none ++ (swsW G a b.sw ++ Wr))) sz) (gmQ G A C a b gres Wr (some (.int res)))) _ _ _
  refine Met.ofW (cc := cX8_stairs) (maxL := 4) (ret := (some .int)) (by decide) rfl ?_
  intro p e s m args below meth c s₁ B hml hv
  obtain ⟨rfl, ⟨hsz, hP, hK, hD0⟩, hN⟩ := hv
  have hx := B.exec
  have hb := B.bytes
  have hr := B.returns
  have hts := atoms_spec (ws := wsX8_stairs) B.pre
  have hown : s.vm.findClass RX8 = some m.cls := findClass_of_methodNamed B.named
  have hlocks := B.notSynchronized
  have hin0 : ∀ w ∈ u_ws RX0 TX0 9, w ∈ wsX8_stairs := by decide +kernel
  have hfl97 := hts (.fieldLink RX8 97 "SwellBodies$Body" "fills" "I") (by decide +kernel)
  subst hsz
  have hD := hD0.self (sz := s.heap.size)
  generalize hAe : va_A (f1W G A C ++ (bcW G a b none ++ (swsW G a b.sw ++ Wr))) s.heap.size = AA at hD ⊢
  have hA : ∀ q : Nat, s.heap.size ≤ q → AA q := fun q h => by rw [← hAe]; exact Or.inr h
  have hS : va_S AA s.heap s.heap [] := va_S.rf
  have pq : (f1W G A C ++ (bcW G a b none ++ (swsW G a b.sw ++ Wr))).Perm (bcW G a b none ++ (swsW G a b.sw ++ (f1W G A C ++ Wr))) := fl_perm [f1W G A C, bcW G a b none, swsW G a b.sw] (is := [0, 1, 2]) (js := [1, 2, 0]) Wr (by decide)
  have hl := lv_entry ([.ref A.h, .int p1, .int p2]) (n := 4) (Nat.le_of_ble_eq_true rfl)
  rw [lg_entry_eq]
  generalize (lg_sl ([.ref A.h, .int p1, .int p2]) ++ List.replicate (4 - (lg_sl ([.ref A.h, .int p1, .int p2])).length) Slot.unset).toArray = ls at hl ⊢
  have hl : lv_has ls 4 [(0, .ref A.h), (1, .int p1), (2, .int p2)] := hl
  unfold fX8_stairs_c at hF
  refine lv_aload_n hx hb dX8_stairs_0 rfl (lv_at hl 0 rfl) ?_
  refine lv_iload_n hx hb dX8_stairs_1 rfl (lv_at hl 1 rfl) ?_
  obtain ⟨v_1, hv_1, hF⟩ := bd_s hF
  refine ro_qe (va_runV (As := [.int p1]) (rest := []) ⟨hx, hb, hml, hown, hts⟩ (kX8_find_F l G A.h A.qb A.d A.qs A.m a.f C.bc A.RB p1 (by assumption) v_1 hv_1) (cwV 1 hts gX8_stairs_X8_find rfl rfl rfl (by decide +kernel) ⟨Nat.le_of_ble_eq_true rfl, Nat.le_of_ble_eq_true rfl⟩) (pvR (q0 := 0) 8 hK (hP.sub (ws' := (wXB G A.h A.qb A.d A.qs A.m A.m C.bc A.RB)) [0, 6] rfl) rfl rfl) rfl rfl hl.1 rfl (lv_room (Nat.le_of_ble_eq_true rfl)) dX8_stairs_2 ⟨Nat.le_of_ble_eq_true rfl, Nat.le_of_ble_eq_true rfl⟩) ?_
  refine lv_astore_n (lv' := [(3, .ref a.f), (0, .ref A.h), (1, .int p1), (2, .int p2)]) hx hb dX8_stairs_5 rfl hl (by decide) rfl (fun ls hl => ?_)
  refine lv_aload_n hx hb dX8_stairs_6 rfl (lv_at hl 0 rfl) ?_
  refine lv_ifnull hx hb dX8_stairs_7 ?_
  refine lv_iload_n hx hb dX8_stairs_10 rfl (lv_at hl 3 rfl) ?_
  refine lv_if_lt (tgt := 22) hx hb dX8_stairs_11 (by decide) (fun c_2 => ?_) (fun c_2 => ?_)
  · replace hF := it_p c_2 hF
    refine lv_iconst (v := (-1)) hx hb dX8_stairs_22 (by decide) ?_
    refine W.widen (k := 10) (n := 260) (Nat.le_of_ble_eq_true rfl) (Nat.le_of_ble_eq_true rfl) ?_
    exact W.iret (v := (-1)) hx hb hr (fun t ht hW => ⟨⟨some (.int (-1)), _, rfl, ⟨congrArg (fun z => some (Value.int z)) (so_e hF), Or.inl rfl⟩, qW_mk ht hP hK hW hD⟩, hS.F ht⟩) hS.2.2 dX8_stairs_23
  · replace hF := it_n c_2 hF
    refine lv_iload_n hx hb dX8_stairs_14 rfl (lv_at hl 3 rfl) ?_
    refine lv_aload_n hx hb dX8_stairs_15 rfl (lv_at hl 0 rfl) ?_
    refine va_get (ci := 0) (v := .int b.fl) (C := RX0) (T := TX0) (N := 9) hx hb hts hin0 hown hK hP 26 rfl rfl 0 (by decide) hfl97 (fun _ h9 => h9) rfl dX8_stairs_16 ?_
    refine lv_icmp_le (tgt := 24) hx hb dX8_stairs_19 (by decide) (fun c_3 => ?_) (fun c_3 => ?_)
    · replace hF := it_p c_3 hF
      refine lv_aload_n hx hb dX8_stairs_24 rfl (lv_at hl 0 rfl) ?_
      obtain ⟨v_4, hv_4, hF⟩ := bd_s hF
      have hke : KE l yX0_growth wsX0_growth [.ref a.f] G (bcW G a b none ++ (swsW G a b.sw ++ (f1W G A C ++ Wr))) _ 6 160 10 260 := KE.of (KX0_growth l G a b hok gres hG (f1W G A C ++ Wr)) rfl rfl (by decide)
      refine ke_V (q0 := 0) (As := []) (rest := []) 0 hke ⟨hx, hb, hml, hown, hts⟩ (fun rm mc ms h1 h2 h3 h4 => cwV 0 hts gX8_stairs_X0_growth rfl h1 h2 (by decide +kernel) ⟨Nat.le_trans (Nat.add_le_add_right h3 1) (Nat.le_of_ble_eq_true rfl), Nat.le_trans (Nat.add_le_add_left h4 _) (Nat.le_of_ble_eq_true rfl)⟩) hK hN (vP_perm pq hP) (vD_perm pq hD) hS hA rfl rfl rfl hl.1 rfl (lv_room (Nat.le_of_ble_eq_true rfl)) dX8_stairs_25 ⟨Nat.le_of_ble_eq_true rfl, Nat.le_of_ble_eq_true rfl⟩ (fun v w H locs hQ hP hD hS => ?_)
      obtain ⟨RW2, w2, wb2, o, an, hok2, rfl, rfl⟩ := hQ
      refine lv_iload_n hx hb dX8_stairs_28 rfl (lv_at hl 3 rfl) ?_
      obtain ⟨v_5, hv_5, hF⟩ := bd_s hF
      refine ro_ie (va_runV (As := [.int p2]) (rest := []) ⟨hx, hb, hml, hown, hts⟩ (kX2_stair l G o an gres.1 gres.2.1 p2 v_5 hv_5) (cwV 1 hts gX8_stairs_X2_stair rfl rfl rfl (by decide +kernel) ⟨Nat.le_of_ble_eq_true rfl, Nat.le_of_ble_eq_true rfl⟩) (pvR (q0 := 0) 2 hK (hP.sub (ws' := (wGro G o an gres.1 gres.2.1)) [18, 19] rfl) rfl rfl) rfl rfl hl.1 rfl (lv_room (Nat.le_of_ble_eq_true rfl)) dX8_stairs_29 ⟨Nat.le_of_ble_eq_true rfl, Nat.le_of_ble_eq_true rfl⟩) ?_
      exact W.iret (v := v_5) hx hb hr (fun t ht hW => ⟨⟨some (.int v_5), _, rfl, ⟨congrArg (fun z => some (Value.int z)) (so_e hF), Or.inr ⟨RW2, w2, wb2, o, an, hok2, rfl⟩⟩, qW_mk ht hP hK hW hD⟩, hS.F ht⟩) hS.2.2 dX8_stairs_32
    · replace hF := it_n c_3 hF
      refine lv_iconst (v := (-1)) hx hb dX8_stairs_22 (by decide) ?_
      refine W.widen (k := 10) (n := 260) (Nat.le_of_ble_eq_true rfl) (Nat.le_of_ble_eq_true rfl) ?_
      exact W.iret (v := (-1)) hx hb hr (fun t ht hW => ⟨⟨some (.int (-1)), _, rfl, ⟨congrArg (fun z => some (Value.int z)) (so_e hF), Or.inl rfl⟩, qW_mk ht hP hK hW hD⟩, hS.F ht⟩) hS.2.2 dX8_stairs_23
