abbrev wXBn (G : GT) (h0 qb d0 qs m0 : Nat) (bc_ : Int32) (RB : Nat → Option Nat) : va_W := [(h0, .inr (8, [.ref d0, .ref qs, .ref qb, .ref m0, .int bc_])), (qb, .inl (gB G, 8, .inr (.inr (.inr (.inr RB)))))]
abbrev wXO (G : GT) (h0 d0 qs qb m0 : Nat) (bc_ : Int32) : va_W := [(h0, .inr (8, [.ref d0, .ref qs, .ref qb, .ref m0, .int bc_]))]
abbrev wXD (G : GT) (h0 d0 dx dy dz qs qb m0 : Nat) (bc_ : Int32) (ds : Int32) (DX : Nat → Int32) (DY : Nat → Int32) (DZ : Nat → Int32) : va_W := [(h0, .inr (8, [.ref d0, .ref qs, .ref qb, .ref m0, .int bc_])), (d0, .inr (4, [.ref dx, .ref dy, .ref dz, .int ds])), (dx, .inl (gI G, 12, .inl DX)), (dy, .inl (gI G, 12, .inl DY)), (dz, .inl (gI G, 12, .inl DZ))]
abbrev wXS (G : GT) (h0 qs f0 ac d0 qb m0 : Nat) (bc_ : Int32) (RS : Nat → Option Nat) (la : Int32) (si : Int32) (CE : Nat → Int64) : va_W := [(h0, .inr (8, [.ref d0, .ref qs, .ref qb, .ref m0, .int bc_])), (qs, .inl (gS G, 4, .inr (.inr (.inr (.inr RS))))), (f0, .inr (5, [.ref ac, .int la, .int si])), (ac, .inl (gJ G, 36, .inr (.inl CE)))]
abbrev wXSD (G : GT) (h0 d0 dx dy dz qs f0 ac qb m0 : Nat) (bc_ : Int32) (ds : Int32) (DX : Nat → Int32) (DY : Nat → Int32) (DZ : Nat → Int32) (RS : Nat → Option Nat) (la : Int32) (si : Int32) (CE : Nat → Int64) : va_W := [(h0, .inr (8, [.ref d0, .ref qs, .ref qb, .ref m0, .int bc_])), (d0, .inr (4, [.ref dx, .ref dy, .ref dz, .int ds])), (dx, .inl (gI G, 12, .inl DX)), (dy, .inl (gI G, 12, .inl DY)), (dz, .inl (gI G, 12, .inl DZ)), (qs, .inl (gS G, 4, .inr (.inr (.inr (.inr RS))))), (f0, .inr (5, [.ref ac, .int la, .int si])), (ac, .inl (gJ G, 36, .inr (.inl CE)))]
abbrev wXRD (G : GT) (h0 d0 dx dy dz f0 ac qs qb m0 : Nat) (bc_ : Int32) (ds : Int32) (DX : Nat → Int32) (DY : Nat → Int32) (DZ : Nat → Int32) (la : Int32) (si : Int32) (CE : Nat → Int64) : va_W := [(h0, .inr (8, [.ref d0, .ref qs, .ref qb, .ref m0, .int bc_])), (d0, .inr (4, [.ref dx, .ref dy, .ref dz, .int ds])), (dx, .inl (gI G, 12, .inl DX)), (dy, .inl (gI G, 12, .inl DY)), (dz, .inl (gI G, 12, .inl DZ)), (f0, .inr (5, [.ref ac, .int la, .int si])), (ac, .inl (gJ G, 36, .inr (.inl CE)))]
abbrev wXB (G : GT) (h0 qb d0 qs m0 f0 : Nat) (bc_ : Int32) (RB : Nat → Option Nat) : va_W := [(h0, .inr (8, [.ref d0, .ref qs, .ref qb, .ref m0, .int bc_])), (qb, .inl (gB G, 8, .inr (.inr (.inr (.inr RB)))))]
def fX8_isAmong (p1 : Int64) (p2 : Int32) : Option (Int32) :=
  (if lg_cmp p1 ((-p2).toInt64) < 0 then (some 0) else (if 0 < lg_cmp p1 p2.toInt64 then (some 0) else (some 1)))
abbrev rX8_isAmong : Room := { frames := 0, cells := 0, slots := 0, locals := 0 }
set_option maxHeartbeats 40000000 in
set_option maxRecDepth 100000 in
theorem kX8_isAmong (l : Launch) (G : GT) (p1 : Int64) (p2 : Int32) (res : Int32) (hF : fX8_isAmong p1 p2 = some res) : Met l yX8_isAmong wsX8_isAmong rX8_isAmong (va_Pc [.long p1, .int p2] (pR G ([] : va_W))) (vp_Si (fun r => r = res ∧ (r = 0 ∨ r = 1))) 0 0 (fun _ => False) := by
  refine Met.ofW (cc := cX8_isAmong) (maxL := 3) (ret := (some .boolean)) (by decide) rfl ?_
  intro p e s m args below meth c s₁ B hml hv
  obtain ⟨rfl, hP, hK⟩ := hv
  have hx := B.exec
  have hb := B.bytes
  have hr := B.returns
  have hts := atoms_spec (ws := wsX8_isAmong) B.pre
  have hown : s.vm.findClass RX8 = some m.cls := findClass_of_methodNamed B.named
  have hlocks := B.notSynchronized
  have hl := lv_entry ([.long p1, .int p2]) (n := 3) (Nat.le_of_ble_eq_true rfl)
  rw [lg_entry_eq]
  generalize (lg_sl ([.long p1, .int p2]) ++ List.replicate (3 - (lg_sl ([.long p1, .int p2])).length) Slot.unset).toArray = ls at hl ⊢
  have hl : lv_has ls 3 [(0, .long p1), (2, .int p2)] := hl
  unfold fX8_isAmong at hF
  refine lv_lload_n hx hb dX8_isAmong_0 rfl (lv_at hl 0 rfl) ?_
  refine lv_iload_n hx hb dX8_isAmong_1 rfl (lv_at hl 1 rfl) ?_
  refine lv_ineg hx hb dX8_isAmong_2 ?_
  refine lv_i2l hx hb dX8_isAmong_3 rfl ?_
  refine W.lcmp hx hb dX8_isAmong_4 ?_
  refine lv_if_lt (tgt := 19) hx hb dX8_isAmong_5 (by decide) (fun c_1 => ?_) (fun c_1 => ?_)
  · replace hF := it_p c_1 hF
    refine lv_iconst (v := 0) hx hb dX8_isAmong_19 (by decide) ?_
    exact W.zret (v := 0) hx hb hr rfl (fun t ht hW => ⟨0, rfl, ⟨so_e hF, (Or.inl rfl)⟩, ht⟩) (fun q h => absurd h List.not_mem_nil) dX8_isAmong_20
  · replace hF := it_n c_1 hF
    refine lv_lload_n hx hb dX8_isAmong_8 rfl (lv_at hl 0 rfl) ?_
    refine lv_iload_n hx hb dX8_isAmong_9 rfl (lv_at hl 1 rfl) ?_
    refine lv_i2l hx hb dX8_isAmong_10 rfl ?_
    refine W.lcmp hx hb dX8_isAmong_11 ?_
    refine lv_if_gt (tgt := 19) hx hb dX8_isAmong_12 (by decide) (fun c_2 => ?_) (fun c_2 => ?_)
    · replace hF := it_p c_2 hF
      refine lv_iconst (v := 0) hx hb dX8_isAmong_19 (by decide) ?_
      exact W.zret (v := 0) hx hb hr rfl (fun t ht hW => ⟨0, rfl, ⟨so_e hF, (Or.inl rfl)⟩, ht⟩) (fun q h => absurd h List.not_mem_nil) dX8_isAmong_20
    · replace hF := it_n c_2 hF
      refine lv_iconst (v := 1) hx hb dX8_isAmong_15 (by decide) ?_
      refine lv_goto (tgt := 20) hx hb dX8_isAmong_16 (by decide) ?_
      exact W.zret (v := 1) hx hb hr rfl (fun t ht hW => ⟨1, rfl, ⟨so_e hF, (Or.inr rfl)⟩, ht⟩) (fun q h => absurd h List.not_mem_nil) dX8_isAmong_20
def fX8_inReach (p1 : Int64) (p2 : Int64) (p3 : Int64) : Option (Int32) :=
  (bd (fX8_isAmong p1 5) (fun v_1 => (if v_1 = 0 then (some 0) else (bd (fX8_isAmong p2 5) (fun v_4 => (if v_4 = 0 then (some 0) else (bd (fX8_isAmong p3 5) (fun v_7 => (if v_7 = 0 then (some 0) else (some 1))))))))))
abbrev rX8_inReach : Room := { frames := 1, cells := 0, slots := 0, locals := 22 }
set_option maxHeartbeats 40000000 in
set_option maxRecDepth 100000 in
theorem kX8_inReach (l : Launch) (G : GT) (p1 : Int64) (p2 : Int64) (p3 : Int64) (res : Int32) (hF : fX8_inReach p1 p2 p3 = some res) : Met l yX8_inReach wsX8_inReach rX8_inReach (va_Pc [.long p1, .long p2, .long p3] (pR G ([] : va_W))) (vp_Si (fun r => r = res ∧ (r = 0 ∨ r = 1))) 0 0 (fun _ => False) := by
  refine Met.ofW (cc := cX8_inReach) (maxL := 6) (ret := (some .boolean)) (by decide) rfl ?_
  intro p e s m args below meth c s₁ B hml hv
  obtain ⟨rfl, hP, hK⟩ := hv
  have hx := B.exec
  have hb := B.bytes
  have hr := B.returns
  have hts := atoms_spec (ws := wsX8_inReach) B.pre
  have hown : s.vm.findClass RX8 = some m.cls := findClass_of_methodNamed B.named
  have hlocks := B.notSynchronized
  have hl := lv_entry ([.long p1, .long p2, .long p3]) (n := 6) (Nat.le_of_ble_eq_true rfl)
  rw [lg_entry_eq]
  generalize (lg_sl ([.long p1, .long p2, .long p3]) ++ List.replicate (6 - (lg_sl ([.long p1, .long p2, .long p3])).length) Slot.unset).toArray = ls at hl ⊢
  have hl : lv_has ls 6 [(0, .long p1), (2, .long p2), (4, .long p3)] := hl
  unfold fX8_inReach at hF
  refine lv_lload_n hx hb dX8_inReach_0 rfl (lv_at hl 0 rfl) ?_
  refine lv_iconst (v := 5) hx hb dX8_inReach_1 (by decide) ?_
  obtain ⟨v_1, hv_1, hF⟩ := bd_s hF
  refine ro_ze (va_runS (As := [.long p1, .int 5]) (rest := []) ⟨hx, hb, hml, hown, hts⟩ (kX8_isAmong l G p1 5 v_1 hv_1) (va_cwS 2 hts gX8_inReach_X8_isAmong rfl rfl rfl (by decide +kernel) ⟨Nat.le_of_ble_eq_true rfl, Nat.le_of_ble_eq_true rfl⟩) (psR hK (hP.sub (ws' := ([] : va_W)) [] rfl)) rfl rfl hl.1 rfl (lv_room (Nat.le_of_ble_eq_true rfl)) dX8_inReach_2 ⟨Nat.le_of_ble_eq_true rfl, Nat.le_of_ble_eq_true rfl⟩) (fun hb_2 => ?_)
  refine lv_if_eq (tgt := 29) hx hb dX8_inReach_5 (by decide) (fun c_3 => ?_) (fun c_3 => ?_)
  · replace hF := it_p c_3 hF
    refine lv_iconst (v := 0) hx hb dX8_inReach_29 (by decide) ?_
    exact W.zret (v := 0) hx hb hr rfl (fun t ht hW => ⟨0, rfl, ⟨so_e hF, (Or.inl rfl)⟩, ht⟩) (fun q h => absurd h List.not_mem_nil) dX8_inReach_30
  · replace hF := it_n c_3 hF
    refine lv_lload_n hx hb dX8_inReach_8 rfl (lv_at hl 1 rfl) ?_
    refine lv_iconst (v := 5) hx hb dX8_inReach_9 (by decide) ?_
    obtain ⟨v_4, hv_4, hF⟩ := bd_s hF
    refine ro_ze (va_runS (As := [.long p2, .int 5]) (rest := []) ⟨hx, hb, hml, hown, hts⟩ (kX8_isAmong l G p2 5 v_4 hv_4) (va_cwS 2 hts gX8_inReach_X8_isAmong rfl rfl rfl (by decide +kernel) ⟨Nat.le_of_ble_eq_true rfl, Nat.le_of_ble_eq_true rfl⟩) (psR hK (hP.sub (ws' := ([] : va_W)) [] rfl)) rfl rfl hl.1 rfl (lv_room (Nat.le_of_ble_eq_true rfl)) dX8_inReach_10 ⟨Nat.le_of_ble_eq_true rfl, Nat.le_of_ble_eq_true rfl⟩) (fun hb_5 => ?_)
    refine lv_if_eq (tgt := 29) hx hb dX8_inReach_13 (by decide) (fun c_6 => ?_) (fun c_6 => ?_)
    · replace hF := it_p c_6 hF
      refine lv_iconst (v := 0) hx hb dX8_inReach_29 (by decide) ?_
      exact W.zret (v := 0) hx hb hr rfl (fun t ht hW => ⟨0, rfl, ⟨so_e hF, (Or.inl rfl)⟩, ht⟩) (fun q h => absurd h List.not_mem_nil) dX8_inReach_30
    · replace hF := it_n c_6 hF
      refine lv_lload hx hb dX8_inReach_16 (lv_at hl 2 rfl) ?_
      refine lv_iconst (v := 5) hx hb dX8_inReach_18 (by decide) ?_
      obtain ⟨v_7, hv_7, hF⟩ := bd_s hF
      refine ro_ze (va_runS (As := [.long p3, .int 5]) (rest := []) ⟨hx, hb, hml, hown, hts⟩ (kX8_isAmong l G p3 5 v_7 hv_7) (va_cwS 2 hts gX8_inReach_X8_isAmong rfl rfl rfl (by decide +kernel) ⟨Nat.le_of_ble_eq_true rfl, Nat.le_of_ble_eq_true rfl⟩) (psR hK (hP.sub (ws' := ([] : va_W)) [] rfl)) rfl rfl hl.1 rfl (lv_room (Nat.le_of_ble_eq_true rfl)) dX8_inReach_19 ⟨Nat.le_of_ble_eq_true rfl, Nat.le_of_ble_eq_true rfl⟩) (fun hb_8 => ?_)
      refine lv_if_eq (tgt := 29) hx hb dX8_inReach_22 (by decide) (fun c_9 => ?_) (fun c_9 => ?_)
      · replace hF := it_p c_9 hF
        refine lv_iconst (v := 0) hx hb dX8_inReach_29 (by decide) ?_
        exact W.zret (v := 0) hx hb hr rfl (fun t ht hW => ⟨0, rfl, ⟨so_e hF, (Or.inl rfl)⟩, ht⟩) (fun q h => absurd h List.not_mem_nil) dX8_inReach_30
      · replace hF := it_n c_9 hF
        refine lv_iconst (v := 1) hx hb dX8_inReach_25 (by decide) ?_
        refine lv_goto (tgt := 30) hx hb dX8_inReach_26 (by decide) ?_
        exact W.zret (v := 1) hx hb hr rfl (fun t ht hW => ⟨1, rfl, ⟨so_e hF, (Or.inr rfl)⟩, ht⟩) (fun q h => absurd h List.not_mem_nil) dX8_inReach_30
def fX8_isSheaf (p1 : Int32) : Option (Int32) :=
  (if p1 < 0 then (some 0) else (if 4 ≤ p1 then (some 0) else (some 1)))
abbrev rX8_isSheaf : Room := { frames := 0, cells := 0, slots := 0, locals := 0 }
set_option maxHeartbeats 40000000 in
set_option maxRecDepth 100000 in
theorem kX8_isSheaf (l : Launch) (G : GT) (p1 : Int32) (res : Int32) (hF : fX8_isSheaf p1 = some res) : Met l yX8_isSheaf wsX8_isSheaf rX8_isSheaf (va_Pc [.int p1] (pR G ([] : va_W))) (vp_Si (fun r => r = res ∧ (r = 0 ∨ r = 1))) 0 0 (fun _ => False) := by
  refine Met.ofW (cc := cX8_isSheaf) (maxL := 1) (ret := (some .boolean)) (by decide) rfl ?_
  intro p e s m args below meth c s₁ B hml hv
  obtain ⟨rfl, hP, hK⟩ := hv
  have hx := B.exec
  have hb := B.bytes
  have hr := B.returns
  have hts := atoms_spec (ws := wsX8_isSheaf) B.pre
  have hown : s.vm.findClass RX8 = some m.cls := findClass_of_methodNamed B.named
  have hlocks := B.notSynchronized
  have hl := lv_entry ([.int p1]) (n := 1) (Nat.le_of_ble_eq_true rfl)
  rw [lg_entry_eq]
  generalize (lg_sl ([.int p1]) ++ List.replicate (1 - (lg_sl ([.int p1])).length) Slot.unset).toArray = ls at hl ⊢
  have hl : lv_has ls 1 [(0, .int p1)] := hl
  unfold fX8_isSheaf at hF
  refine lv_iload_n hx hb dX8_isSheaf_0 rfl (lv_at hl 0 rfl) ?_
  refine lv_if_lt (tgt := 13) hx hb dX8_isSheaf_1 (by decide) (fun c_1 => ?_) (fun c_1 => ?_)
  · replace hF := it_p c_1 hF
    refine lv_iconst (v := 0) hx hb dX8_isSheaf_13 (by decide) ?_
    exact W.zret (v := 0) hx hb hr rfl (fun t ht hW => ⟨0, rfl, ⟨so_e hF, (Or.inl rfl)⟩, ht⟩) (fun q h => absurd h List.not_mem_nil) dX8_isSheaf_14
  · replace hF := it_n c_1 hF
    refine lv_iload_n hx hb dX8_isSheaf_4 rfl (lv_at hl 0 rfl) ?_
    refine lv_iconst (v := 4) hx hb dX8_isSheaf_5 (by decide) ?_
    refine lv_icmp_ge (tgt := 13) hx hb dX8_isSheaf_6 (by decide) (fun c_2 => ?_) (fun c_2 => ?_)
    · replace hF := it_p c_2 hF
      refine lv_iconst (v := 0) hx hb dX8_isSheaf_13 (by decide) ?_
      exact W.zret (v := 0) hx hb hr rfl (fun t ht hW => ⟨0, rfl, ⟨so_e hF, (Or.inl rfl)⟩, ht⟩) (fun q h => absurd h List.not_mem_nil) dX8_isSheaf_14
    · replace hF := it_n c_2 hF
      refine lv_iconst (v := 1) hx hb dX8_isSheaf_9 (by decide) ?_
      refine lv_goto (tgt := 14) hx hb dX8_isSheaf_10 (by decide) ?_
      exact W.zret (v := 1) hx hb hr rfl (fun t ht hW => ⟨1, rfl, ⟨so_e hF, (Or.inr rfl)⟩, ht⟩) (fun q h => absurd h List.not_mem_nil) dX8_isSheaf_14
def fX8_isLane (p1 : Int32) : Option (Int32) :=
  (if p1 = 0 then (some 1) else (if p1 = 1 then (some 1) else (some 0)))
abbrev rX8_isLane : Room := { frames := 0, cells := 0, slots := 0, locals := 0 }
set_option maxHeartbeats 40000000 in
set_option maxRecDepth 100000 in
theorem kX8_isLane (l : Launch) (G : GT) (p1 : Int32) (res : Int32) (hF : fX8_isLane p1 = some res) : Met l yX8_isLane wsX8_isLane rX8_isLane (va_Pc [.int p1] (pR G ([] : va_W))) (vp_Si (fun r => r = res ∧ (r = 0 ∨ r = 1))) 0 0 (fun _ => False) := by
  refine Met.ofW (cc := cX8_isLane) (maxL := 1) (ret := (some .boolean)) (by decide) rfl ?_
  intro p e s m args below meth c s₁ B hml hv
  obtain ⟨rfl, hP, hK⟩ := hv
  have hx := B.exec
  have hb := B.bytes
  have hr := B.returns
  have hts := atoms_spec (ws := wsX8_isLane) B.pre
  have hown : s.vm.findClass RX8 = some m.cls := findClass_of_methodNamed B.named
  have hlocks := B.notSynchronized
  have hl := lv_entry ([.int p1]) (n := 1) (Nat.le_of_ble_eq_true rfl)
  rw [lg_entry_eq]
  generalize (lg_sl ([.int p1]) ++ List.replicate (1 - (lg_sl ([.int p1])).length) Slot.unset).toArray = ls at hl ⊢
  have hl : lv_has ls 1 [(0, .int p1)] := hl
  unfold fX8_isLane at hF
  refine lv_iload_n hx hb dX8_isLane_0 rfl (lv_at hl 0 rfl) ?_
  refine lv_if_eq (tgt := 9) hx hb dX8_isLane_1 (by decide) (fun c_1 => ?_) (fun c_1 => ?_)
  · replace hF := it_p c_1 hF
    refine lv_iconst (v := 1) hx hb dX8_isLane_9 (by decide) ?_
    refine lv_goto (tgt := 14) hx hb dX8_isLane_10 (by decide) ?_
    exact W.zret (v := 1) hx hb hr rfl (fun t ht hW => ⟨1, rfl, ⟨so_e hF, (Or.inr rfl)⟩, ht⟩) (fun q h => absurd h List.not_mem_nil) dX8_isLane_14
  · replace hF := it_n c_1 hF
    refine lv_iload_n hx hb dX8_isLane_4 rfl (lv_at hl 0 rfl) ?_
    refine lv_iconst (v := 1) hx hb dX8_isLane_5 (by decide) ?_
    refine lv_icmp_ne (tgt := 13) hx hb dX8_isLane_6 (by decide) (fun c_2 => ?_) (fun c_2 => ?_)
    · replace hF := it_n c_2 hF
      refine lv_iconst (v := 0) hx hb dX8_isLane_13 (by decide) ?_
      exact W.zret (v := 0) hx hb hr rfl (fun t ht hW => ⟨0, rfl, ⟨so_e hF, (Or.inl rfl)⟩, ht⟩) (fun q h => absurd h List.not_mem_nil) dX8_isLane_14
    · replace hF := it_p c_2 hF
      refine lv_iconst (v := 1) hx hb dX8_isLane_9 (by decide) ?_
      refine lv_goto (tgt := 14) hx hb dX8_isLane_10 (by decide) ?_
      exact W.zret (v := 1) hx hb hr rfl (fun t ht hW => ⟨1, rfl, ⟨so_e hF, (Or.inr rfl)⟩, ht⟩) (fun q h => absurd h List.not_mem_nil) dX8_isLane_14
def fX8_isWay (p1 : Int32) : Option (Int32) :=
  (if p1 < 0 then (some 0) else (if 2 < p1 then (some 0) else (some 1)))
abbrev rX8_isWay : Room := { frames := 0, cells := 0, slots := 0, locals := 0 }
set_option maxHeartbeats 40000000 in
set_option maxRecDepth 100000 in
theorem kX8_isWay (l : Launch) (G : GT) (p1 : Int32) (res : Int32) (hF : fX8_isWay p1 = some res) : Met l yX8_isWay wsX8_isWay rX8_isWay (va_Pc [.int p1] (pR G ([] : va_W))) (vp_Si (fun r => r = res ∧ (r = 0 ∨ r = 1))) 0 0 (fun _ => False) := by
  refine Met.ofW (cc := cX8_isWay) (maxL := 1) (ret := (some .boolean)) (by decide) rfl ?_
  intro p e s m args below meth c s₁ B hml hv
  obtain ⟨rfl, hP, hK⟩ := hv
  have hx := B.exec
  have hb := B.bytes
  have hr := B.returns
  have hts := atoms_spec (ws := wsX8_isWay) B.pre
  have hown : s.vm.findClass RX8 = some m.cls := findClass_of_methodNamed B.named
  have hlocks := B.notSynchronized
  have hl := lv_entry ([.int p1]) (n := 1) (Nat.le_of_ble_eq_true rfl)
  rw [lg_entry_eq]
  generalize (lg_sl ([.int p1]) ++ List.replicate (1 - (lg_sl ([.int p1])).length) Slot.unset).toArray = ls at hl ⊢
  have hl : lv_has ls 1 [(0, .int p1)] := hl
  unfold fX8_isWay at hF
  refine lv_iload_n hx hb dX8_isWay_0 rfl (lv_at hl 0 rfl) ?_
  refine lv_if_lt (tgt := 13) hx hb dX8_isWay_1 (by decide) (fun c_1 => ?_) (fun c_1 => ?_)
  · replace hF := it_p c_1 hF
    refine lv_iconst (v := 0) hx hb dX8_isWay_13 (by decide) ?_
    exact W.zret (v := 0) hx hb hr rfl (fun t ht hW => ⟨0, rfl, ⟨so_e hF, (Or.inl rfl)⟩, ht⟩) (fun q h => absurd h List.not_mem_nil) dX8_isWay_14
  · replace hF := it_n c_1 hF
    refine lv_iload_n hx hb dX8_isWay_4 rfl (lv_at hl 0 rfl) ?_
    refine lv_iconst (v := 2) hx hb dX8_isWay_5 (by decide) ?_
    refine lv_icmp_gt (tgt := 13) hx hb dX8_isWay_6 (by decide) (fun c_2 => ?_) (fun c_2 => ?_)
    · replace hF := it_p c_2 hF
      refine lv_iconst (v := 0) hx hb dX8_isWay_13 (by decide) ?_
      exact W.zret (v := 0) hx hb hr rfl (fun t ht hW => ⟨0, rfl, ⟨so_e hF, (Or.inl rfl)⟩, ht⟩) (fun q h => absurd h List.not_mem_nil) dX8_isWay_14
    · replace hF := it_n c_2 hF
      refine lv_iconst (v := 1) hx hb dX8_isWay_9 (by decide) ?_
      refine lv_goto (tgt := 14) hx hb dX8_isWay_10 (by decide) ?_
      exact W.zret (v := 1) hx hb hr rfl (fun t ht hW => ⟨1, rfl, ⟨so_e hF, (Or.inr rfl)⟩, ht⟩) (fun q h => absurd h List.not_mem_nil) dX8_isWay_14
def fX8_isSwelling (p1 : Int32) : Option (Int32) :=
  (if p1 < 1 then (some 0) else (if 5 < p1 then (some 0) else (some 1)))
abbrev rX8_isSwelling : Room := { frames := 0, cells := 0, slots := 0, locals := 0 }
set_option maxHeartbeats 40000000 in
set_option maxRecDepth 100000 in
theorem kX8_isSwelling (l : Launch) (G : GT) (p1 : Int32) (res : Int32) (hF : fX8_isSwelling p1 = some res) : Met l yX8_isSwelling wsX8_isSwelling rX8_isSwelling (va_Pc [.int p1] (pR G ([] : va_W))) (vp_Si (fun r => r = res ∧ (r = 0 ∨ r = 1))) 0 0 (fun _ => False) := by
  refine Met.ofW (cc := cX8_isSwelling) (maxL := 1) (ret := (some .boolean)) (by decide) rfl ?_
  intro p e s m args below meth c s₁ B hml hv
  obtain ⟨rfl, hP, hK⟩ := hv
  have hx := B.exec
  have hb := B.bytes
  have hr := B.returns
  have hts := atoms_spec (ws := wsX8_isSwelling) B.pre
  have hown : s.vm.findClass RX8 = some m.cls := findClass_of_methodNamed B.named
  have hlocks := B.notSynchronized
  have hl := lv_entry ([.int p1]) (n := 1) (Nat.le_of_ble_eq_true rfl)
  rw [lg_entry_eq]
  generalize (lg_sl ([.int p1]) ++ List.replicate (1 - (lg_sl ([.int p1])).length) Slot.unset).toArray = ls at hl ⊢
  have hl : lv_has ls 1 [(0, .int p1)] := hl
  unfold fX8_isSwelling at hF
  refine lv_iload_n hx hb dX8_isSwelling_0 rfl (lv_at hl 0 rfl) ?_
  refine lv_iconst (v := 1) hx hb dX8_isSwelling_1 (by decide) ?_
  refine lv_icmp_lt (tgt := 14) hx hb dX8_isSwelling_2 (by decide) (fun c_1 => ?_) (fun c_1 => ?_)
  · replace hF := it_p c_1 hF
    refine lv_iconst (v := 0) hx hb dX8_isSwelling_14 (by decide) ?_
    exact W.zret (v := 0) hx hb hr rfl (fun t ht hW => ⟨0, rfl, ⟨so_e hF, (Or.inl rfl)⟩, ht⟩) (fun q h => absurd h List.not_mem_nil) dX8_isSwelling_15
  · replace hF := it_n c_1 hF
    refine lv_iload_n hx hb dX8_isSwelling_5 rfl (lv_at hl 0 rfl) ?_
    refine lv_iconst (v := 5) hx hb dX8_isSwelling_6 (by decide) ?_
    refine lv_icmp_gt (tgt := 14) hx hb dX8_isSwelling_7 (by decide) (fun c_2 => ?_) (fun c_2 => ?_)
    · replace hF := it_p c_2 hF
      refine lv_iconst (v := 0) hx hb dX8_isSwelling_14 (by decide) ?_
      exact W.zret (v := 0) hx hb hr rfl (fun t ht hW => ⟨0, rfl, ⟨so_e hF, (Or.inl rfl)⟩, ht⟩) (fun q h => absurd h List.not_mem_nil) dX8_isSwelling_15
    · replace hF := it_n c_2 hF
      refine lv_iconst (v := 1) hx hb dX8_isSwelling_10 (by decide) ?_
      refine lv_goto (tgt := 15) hx hb dX8_isSwelling_11 (by decide) ?_
      exact W.zret (v := 1) hx hb hr rfl (fun t ht hW => ⟨1, rfl, ⟨so_e hF, (Or.inr rfl)⟩, ht⟩) (fun q h => absurd h List.not_mem_nil) dX8_isSwelling_15
def fX8_corner (ds : Int32) (DX : Nat → Int32) (DY : Nat → Int32) (DZ : Nat → Int32) (p1 : Int32) (p2 : Int32) (p3 : Int32) : Option (Int32 × Int32 × (Nat → Int32) × (Nat → Int32) × (Nat → Int32)) :=
  (bd (fX8_inReach p1.toInt64 p2.toInt64 p3.toInt64) (fun v_1 => (if v_1 = 0 then (some ((-1), ds, DX, DY, DZ)) else (if ds < 12 then (bd (fX4_put 12 ds DX DY DZ p1 p2 p3) (fun v_5 => (some (v_5.1, v_5.1, v_5.2.1, v_5.2.2.1, v_5.2.2.2)))) else (some ((-3), ds, DX, DY, DZ))))))
abbrev rX8_corner : Room := { frames := 2, cells := 0, slots := 0, locals := 47 }
set_option maxHeartbeats 40000000 in
set_option maxRecDepth 100000 in
theorem kX8_corner (l : Launch) (G : GT) (h0 d0 dx dy dz qs qb m0 : Nat) (sz : Nat) (bc_ : Int32) (ds : Int32) (DX : Nat → Int32) (DY : Nat → Int32) (DZ : Nat → Int32) (p1 : Int32) (p2 : Int32) (p3 : Int32) (res : Int32 × Int32 × (Nat → Int32) × (Nat → Int32) × (Nat → Int32)) (hF : fX8_corner ds DX DY DZ p1 p2 p3 = some res) : Met l yX8_corner wsX8_corner rX8_corner (va_Pc [.ref h0, .int p1, .int p2, .int p3] (pW G sz (wXD G h0 d0 dx dy dz qs qb m0 bc_ ds DX DY DZ))) (va_Qi (fun (r : Int32) (u : Int32 × (Nat → Int32) × (Nat → Int32) × (Nat → Int32)) => r = res.1 ∧ u = res.2) (fun u t => qW G (va_A (wXD G h0 d0 dx dy dz qs qb m0 bc_ ds DX DY DZ) sz) (wXD G h0 d0 dx dy dz qs qb m0 bc_ u.1 u.2.1 u.2.2.1 u.2.2.2) t) (va_A (wXD G h0 d0 dx dy dz qs qb m0 bc_ ds DX DY DZ) sz)) 0 0 (va_A (wXD G h0 d0 dx dy dz qs qb m0 bc_ ds DX DY DZ) sz) := by
  refine Met.ofW (cc := cX8_corner) (maxL := 4) (ret := (some .int)) (by decide) rfl ?_
  intro p e s m args below meth c s₁ B hml hv
  obtain ⟨rfl, hsz, hP, hK, hD0⟩ := hv
  have hx := B.exec
  have hb := B.bytes
  have hr := B.returns
  have hts := atoms_spec (ws := wsX8_corner) B.pre
  have hown : s.vm.findClass RX8 = some m.cls := findClass_of_methodNamed B.named
  have hlocks := B.notSynchronized
  subst hsz
  have hD := hD0.self (sz := s.heap.size)
  generalize hAe : va_A (wXD G h0 d0 dx dy dz qs qb m0 bc_ ds DX DY DZ) s.heap.size = A at hD ⊢
  have hA : ∀ q : Nat, s.heap.size ≤ q → A q := fun q h => by rw [← hAe]; exact Or.inr h
  have hS : va_S A s.heap s.heap [] := va_S.rf
  have hin8 : ∀ w ∈ u_ws RX8 TX8 5, w ∈ wsX8_corner := by decide +kernel
  have hfl14 := hts (.fieldLink RX8 14 "SwellBodies" "draft" "LSwellBodies$Points;") (by decide +kernel)
  have hin4 : ∀ w ∈ u_ws RX4 TX4 4, w ∈ wsX8_corner := by decide +kernel
  have hfl42 := hts (.fieldLink RX8 42 "SwellBodies$Points" "size" "I") (by decide +kernel)
  have hl := lv_entry ([.ref h0, .int p1, .int p2, .int p3]) (n := 4) (Nat.le_of_ble_eq_true rfl)
  rw [lg_entry_eq]
  generalize (lg_sl ([.ref h0, .int p1, .int p2, .int p3]) ++ List.replicate (4 - (lg_sl ([.ref h0, .int p1, .int p2, .int p3])).length) Slot.unset).toArray = ls at hl ⊢
  have hl : lv_has ls 4 [(0, .ref h0), (1, .int p1), (2, .int p2), (3, .int p3)] := hl
  unfold fX8_corner at hF
  refine lv_iload_n hx hb dX8_corner_0 rfl (lv_at hl 1 rfl) ?_
  refine lv_i2l hx hb dX8_corner_1 rfl ?_
  refine lv_iload_n hx hb dX8_corner_2 rfl (lv_at hl 2 rfl) ?_
  refine lv_i2l hx hb dX8_corner_3 rfl ?_
  refine lv_iload_n hx hb dX8_corner_4 rfl (lv_at hl 3 rfl) ?_
  refine lv_i2l hx hb dX8_corner_5 rfl ?_
  obtain ⟨v_1, hv_1, hF⟩ := bd_s hF
  refine ro_ze (va_runS (As := [.long p1.toInt64, .long p2.toInt64, .long p3.toInt64]) (rest := []) ⟨hx, hb, hml, hown, hts⟩ (kX8_inReach l G p1.toInt64 p2.toInt64 p3.toInt64 v_1 hv_1) (va_cwS 3 hts gX8_corner_X8_inReach rfl rfl rfl (by decide +kernel) ⟨Nat.le_of_ble_eq_true rfl, Nat.le_of_ble_eq_true rfl⟩) (psR hK (hP.sub (ws' := ([] : va_W)) [] rfl)) rfl rfl hl.1 rfl (lv_room (Nat.le_of_ble_eq_true rfl)) dX8_corner_6 ⟨Nat.le_of_ble_eq_true rfl, Nat.le_of_ble_eq_true rfl⟩) (fun hb_2 => ?_)
  refine lv_if_ne (tgt := 14) hx hb dX8_corner_9 (by decide) (fun c_3 => ?_) (fun c_3 => ?_)
  · replace hF := it_n c_3 hF
    refine lv_aload_n hx hb dX8_corner_14 rfl (lv_at hl 0 rfl) ?_
    refine va_get (ci := 8) (v := .ref d0) (C := RX8) (T := TX8) (N := 5) hx hb hts hin8 hown hK hP 0 rfl rfl 0 (by decide) hfl14 (fun _ h9 => h9) rfl dX8_corner_15 ?_
    refine va_get (ci := 4) (v := .int ds) (C := RX4) (T := TX4) (N := 4) hx hb hts hin4 hown hK hP 1 rfl rfl 3 (by decide) hfl42 (fun _ h9 => h9) rfl dX8_corner_18 ?_
    refine lv_bipush (v := 12) hx hb dX8_corner_21 (by decide) ?_
    refine lv_icmp_lt (tgt := 29) hx hb dX8_corner_23 (by decide) (fun c_4 => ?_) (fun c_4 => ?_)
    · replace hF := it_p c_4 hF
      refine lv_aload_n hx hb dX8_corner_29 rfl (lv_at hl 0 rfl) ?_
      refine va_get (ci := 8) (v := .ref d0) (C := RX8) (T := TX8) (N := 5) hx hb hts hin8 hown hK hP 0 rfl rfl 0 (by decide) hfl14 (fun _ h9 => h9) rfl dX8_corner_30 ?_
      refine lv_iload_n hx hb dX8_corner_33 rfl (lv_at hl 1 rfl) ?_
      refine lv_iload_n hx hb dX8_corner_34 rfl (lv_at hl 2 rfl) ?_
      refine lv_iload_n hx hb dX8_corner_35 rfl (lv_at hl 3 rfl) ?_
      obtain ⟨v_5, hv_5, hF⟩ := bd_s hF
      refine rw_ve (wf := (fun (u : Int32 × (Nat → Int32) × (Nat → Int32) × (Nat → Int32)) => (wPts G d0 dx dy dz 12 u.1 u.2.1 u.2.2.1 u.2.2.2))) (wr := [(h0, .inr (8, [.ref d0, .ref qs, .ref qb, .ref m0, .int bc_]))]) (va_runV (As := [.int p1, .int p2, .int p3]) (rest := []) ⟨hx, hb, hml, hown, hts⟩ (kX4_put l G d0 dx dy dz s.heap.size 12 ds DX DY DZ p1 p2 p3 v_5 hv_5) (cwV 3 hts gX8_corner_X4_put rfl rfl rfl (by decide +kernel) ⟨Nat.le_of_ble_eq_true rfl, Nat.le_of_ble_eq_true rfl⟩) (pvW (q0 := 0) 4 hK (hP.sub (ws' := (wPts G d0 dx dy dz 12 ds DX DY DZ)) [1, 2, 3, 4] rfl) (hD.sub (ws' := (wPts G d0 dx dy dz 12 ds DX DY DZ)) [1, 2, 3, 4] (by decide) rfl) rfl rfl) rfl rfl hl.1 rfl (lv_room (Nat.le_of_ble_eq_true rfl)) dX8_corner_36 ⟨Nat.le_of_ble_eq_true rfl, Nat.le_of_ble_eq_true rfl⟩) hP hD hS hA [1, 2, 3, 4] [0] rfl rfl (by decide) (by decide) (fun H locs  hP hD hS => ?_)
      have hP : va_P (gD G) vwCl (wXD G h0 d0 dx dy dz qs qb m0 bc_ v_5.1 v_5.2.1 v_5.2.2.1 v_5.2.2.2) H := hP.sub [0, 1, 2, 3, 4] rfl
      have hD : va_D A (wXD G h0 d0 dx dy dz qs qb m0 bc_ v_5.1 v_5.2.1 v_5.2.2.1 v_5.2.2.2) := hD.sub [0, 1, 2, 3, 4] (by decide) rfl
      refine lv_aload_n hx hb dX8_corner_39 rfl (lv_at hl 0 rfl) ?_
      refine va_get (ci := 8) (v := .ref d0) (C := RX8) (T := TX8) (N := 5) hx hb hts hin8 hown hK hP 0 rfl rfl 0 (by decide) hfl14 (fun _ h9 => h9) rfl dX8_corner_40 ?_
      refine va_get (ci := 4) (v := .int v_5.1) (C := RX4) (T := TX4) (N := 4) hx hb hts hin4 hown hK hP 1 rfl rfl 3 (by decide) hfl42 (fun _ h9 => h9) rfl dX8_corner_43 ?_
      exact W.iret (v := v_5.1) hx hb hr  (fun t ht hW => ⟨⟨v_5.1, (v_5.1, v_5.2.1, v_5.2.2.1, v_5.2.2.2), rfl, pr_e hF, qW_mk ht hP hK hW hD⟩, hS.F ht⟩) hS.2.2 dX8_corner_46
    · replace hF := it_n c_4 hF
      refine lv_bipush (v := (-3)) hx hb dX8_corner_26 (by decide) ?_
      exact W.iret (v := (-3)) hx hb hr  (fun t ht hW => ⟨⟨(-3), (ds, DX, DY, DZ), rfl, pr_e hF, qW_mk ht hP hK hW hD⟩, hS.F ht⟩) hS.2.2 dX8_corner_28
  · replace hF := it_p c_3 hF
    refine lv_iconst (v := (-1)) hx hb dX8_corner_12 (by decide) ?_
    exact W.iret (v := (-1)) hx hb hr  (fun t ht hW => ⟨⟨(-1), (ds, DX, DY, DZ), rfl, pr_e hF, qW_mk ht hP hK hW hD⟩, hS.F ht⟩) hS.2.2 dX8_corner_13
def fX8_clear (ds : Int32) : Option (Int32 × Int32) :=
  (some (ds, 0))
abbrev rX8_clear : Room := { frames := 0, cells := 0, slots := 0, locals := 0 }
set_option maxHeartbeats 40000000 in
set_option maxRecDepth 100000 in
theorem kX8_clear (l : Launch) (G : GT) (h0 d0 dx dy dz qs qb m0 : Nat) (sz : Nat) (bc_ : Int32) (ds : Int32) (DX : Nat → Int32) (DY : Nat → Int32) (DZ : Nat → Int32) (res : Int32 × Int32) (hF : fX8_clear ds = some res) : Met l yX8_clear wsX8_clear rX8_clear (va_Pc [.ref h0] (pW G sz (wXD G h0 d0 dx dy dz qs qb m0 bc_ ds DX DY DZ))) (va_Qi (fun (r : Int32) (u : Int32) => r = res.1 ∧ u = res.2) (fun u t => qW G (va_A (wXD G h0 d0 dx dy dz qs qb m0 bc_ ds DX DY DZ) sz) (wXD G h0 d0 dx dy dz qs qb m0 bc_ u DX DY DZ) t) (va_A (wXD G h0 d0 dx dy dz qs qb m0 bc_ ds DX DY DZ) sz)) 0 0 (va_A (wXD G h0 d0 dx dy dz qs qb m0 bc_ ds DX DY DZ) sz) := by
  refine Met.ofW (cc := cX8_clear) (maxL := 2) (ret := (some .int)) (by decide) rfl ?_
  intro p e s m args below meth c s₁ B hml hv
  obtain ⟨rfl, hsz, hP, hK, hD0⟩ := hv
  have hx := B.exec
  have hb := B.bytes
  have hr := B.returns
  have hts := atoms_spec (ws := wsX8_clear) B.pre
  have hown : s.vm.findClass RX8 = some m.cls := findClass_of_methodNamed B.named
  have hlocks := B.notSynchronized
  subst hsz
  have hD := hD0.self (sz := s.heap.size)
  generalize hAe : va_A (wXD G h0 d0 dx dy dz qs qb m0 bc_ ds DX DY DZ) s.heap.size = A at hD ⊢
  have hA : ∀ q : Nat, s.heap.size ≤ q → A q := fun q h => by rw [← hAe]; exact Or.inr h
  have hS : va_S A s.heap s.heap [] := va_S.rf
  have hin8 : ∀ w ∈ u_ws RX8 TX8 5, w ∈ wsX8_clear := by decide +kernel
  have hfl14 := hts (.fieldLink RX8 14 "SwellBodies" "draft" "LSwellBodies$Points;") (by decide +kernel)
  have hin4 : ∀ w ∈ u_ws RX4 TX4 4, w ∈ wsX8_clear := by decide +kernel
  have hfl42 := hts (.fieldLink RX8 42 "SwellBodies$Points" "size" "I") (by decide +kernel)
  have hl := lv_entry ([.ref h0]) (n := 2) (Nat.le_of_ble_eq_true rfl)
  rw [lg_entry_eq]
  generalize (lg_sl ([.ref h0]) ++ List.replicate (2 - (lg_sl ([.ref h0])).length) Slot.unset).toArray = ls at hl ⊢
  have hl : lv_has ls 2 [(0, .ref h0)] := hl
  unfold fX8_clear at hF
  refine lv_aload_n hx hb dX8_clear_0 rfl (lv_at hl 0 rfl) ?_
  refine va_get (ci := 8) (v := .ref d0) (C := RX8) (T := TX8) (N := 5) hx hb hts hin8 hown hK hP 0 rfl rfl 0 (by decide) hfl14 (fun _ h9 => h9) rfl dX8_clear_1 ?_
  refine va_get (ci := 4) (v := .int ds) (C := RX4) (T := TX4) (N := 4) hx hb hts hin4 hown hK hP 1 rfl rfl 3 (by decide) hfl42 (fun _ h9 => h9) rfl dX8_clear_4 ?_
  refine lv_istore_n (lv' := [(1, .int ds), (0, .ref h0)]) hx hb dX8_clear_7 rfl hl (by decide) rfl (fun ls hl => ?_)
  refine lv_aload_n hx hb dX8_clear_8 rfl (lv_at hl 1 rfl) ?_
  refine va_get (ci := 8) (v := .ref d0) (C := RX8) (T := TX8) (N := 5) hx hb hts hin8 hown hK hP 0 rfl rfl 0 (by decide) hfl14 (fun _ h9 => h9) rfl dX8_clear_9 ?_
  refine lv_iconst (v := 0) hx hb dX8_clear_12 (by decide) ?_
  refine va_put (ci := 4) (v := .int 0) (ty := .int) (C := RX4) (T := TX4) (N := 4) hx hb hts hin4 tyX4 tyX4_ok nmX4 hown hK hP hD hS 1 rfl rfl 3 (by decide) hfl42 (fun _ h9 => h9) rfl (by decide +kernel) rfl rfl (Nat.le_of_ble_eq_true rfl) dX8_clear_13 (fun H locs hP hD hS => ?_)
  have hP : va_P (gD G) vwCl (wXD G h0 d0 dx dy dz qs qb m0 bc_ 0 DX DY DZ) H := hP
  have hD : va_D A (wXD G h0 d0 dx dy dz qs qb m0 bc_ 0 DX DY DZ) := hD
  refine lv_iload_n hx hb dX8_clear_16 rfl (lv_at hl 0 rfl) ?_
  exact W.iret (v := ds) hx hb hr  (fun t ht hW => ⟨⟨ds, 0, rfl, pr_e hF, qW_mk ht hP hK hW hD⟩, hS.F ht⟩) hS.2.2 dX8_clear_17
def fX8_sheaf (la : Int32) (si : Int32) (CE : Nat → Int64) (p1 : Int32) (p2 : Int32) (p3 : Int32) : Option (Int32 × Int32 × Int32 × (Nat → Int64)) :=
  (bd (fX8_isSheaf p1) (fun v_1 => (if v_1 = 0 then (some ((-1), la, si, CE)) else (bd (fX8_isLane p2) (fun v_4 => (if v_4 = 0 then (some ((-1), la, si, CE)) else (if p3 ≤ 36 then (if 0 ≤ p3 then (gd_in p1 4 (bd (fX5_renew 36 la si CE p2 p3) (fun v_10 => (some (1, v_10.1, v_10.2.1, v_10.2.2))))) else (some ((-14), la, si, CE))) else (some ((-1), la, si, CE)))))))))
abbrev rX8_sheaf : Room := { frames := 1, cells := 0, slots := 0, locals := 23 }
set_option maxHeartbeats 40000000 in
set_option maxRecDepth 100000 in
theorem kX8_sheaf (l : Launch) (G : GT) (h0 qs f0 ac d0 qb m0 : Nat) (sz : Nat) (bc_ : Int32) (RS : Nat → Option Nat) (la : Int32) (si : Int32) (CE : Nat → Int64) (p1 : Int32) (p2 : Int32) (p3 : Int32) (hq : RS p1.toNatClampNeg = some f0) (res : Int32 × Int32 × Int32 × (Nat → Int64)) (hF : fX8_sheaf la si CE p1 p2 p3 = some res) : Met l yX8_sheaf wsX8_sheaf rX8_sheaf (va_Pc [.ref h0, .int p1, .int p2, .int p3] (pW G sz (wXS G h0 qs f0 ac d0 qb m0 bc_ RS la si CE))) (va_Qi (fun (r : Int32) (u : Int32 × Int32 × (Nat → Int64)) => r = res.1 ∧ u = res.2) (fun u t => qW G (va_A (wXS G h0 qs f0 ac d0 qb m0 bc_ RS la si CE) sz) (wXS G h0 qs f0 ac d0 qb m0 bc_ RS u.1 u.2.1 u.2.2) t) (va_A (wXS G h0 qs f0 ac d0 qb m0 bc_ RS la si CE) sz)) 0 0 (va_A (wXS G h0 qs f0 ac d0 qb m0 bc_ RS la si CE) sz) := by
  refine Met.ofW (cc := cX8_sheaf) (maxL := 4) (ret := (some .int)) (by decide) rfl ?_
  intro p e s m args below meth c s₁ B hml hv
  obtain ⟨rfl, hsz, hP, hK, hD0⟩ := hv
  have hx := B.exec
  have hb := B.bytes
  have hr := B.returns
  have hts := atoms_spec (ws := wsX8_sheaf) B.pre
  have hown : s.vm.findClass RX8 = some m.cls := findClass_of_methodNamed B.named
  have hlocks := B.notSynchronized
  subst hsz
  have hD := hD0.self (sz := s.heap.size)
  generalize hAe : va_A (wXS G h0 qs f0 ac d0 qb m0 bc_ RS la si CE) s.heap.size = A at hD ⊢
  have hA : ∀ q : Nat, s.heap.size ≤ q → A q := fun q h => by rw [← hAe]; exact Or.inr h
  have hS : va_S A s.heap s.heap [] := va_S.rf
  have hin8 : ∀ w ∈ u_ws RX8 TX8 5, w ∈ wsX8_sheaf := by decide +kernel
  have hfl20 := hts (.fieldLink RX8 20 "SwellBodies" "sheaves" "[LSwellBodies$Sheaf;") (by decide +kernel)
  have hl := lv_entry ([.ref h0, .int p1, .int p2, .int p3]) (n := 4) (Nat.le_of_ble_eq_true rfl)
  rw [lg_entry_eq]
  generalize (lg_sl ([.ref h0, .int p1, .int p2, .int p3]) ++ List.replicate (4 - (lg_sl ([.ref h0, .int p1, .int p2, .int p3])).length) Slot.unset).toArray = ls at hl ⊢
  have hl : lv_has ls 4 [(0, .ref h0), (1, .int p1), (2, .int p2), (3, .int p3)] := hl
  unfold fX8_sheaf at hF
  refine lv_iload_n hx hb dX8_sheaf_0 rfl (lv_at hl 1 rfl) ?_
  obtain ⟨v_1, hv_1, hF⟩ := bd_s hF
  refine ro_ze (va_runS (As := [.int p1]) (rest := []) ⟨hx, hb, hml, hown, hts⟩ (kX8_isSheaf l G p1 v_1 hv_1) (va_cwS 1 hts gX8_sheaf_X8_isSheaf rfl rfl rfl (by decide +kernel) ⟨Nat.le_of_ble_eq_true rfl, Nat.le_of_ble_eq_true rfl⟩) (psR hK (hP.sub (ws' := ([] : va_W)) [] rfl)) rfl rfl hl.1 rfl (lv_room (Nat.le_of_ble_eq_true rfl)) dX8_sheaf_1 ⟨Nat.le_of_ble_eq_true rfl, Nat.le_of_ble_eq_true rfl⟩) (fun hb_2 => ?_)
  refine lv_if_eq (tgt := 20) hx hb dX8_sheaf_4 (by decide) (fun c_3 => ?_) (fun c_3 => ?_)
  · replace hF := it_p c_3 hF
    refine lv_iconst (v := (-1)) hx hb dX8_sheaf_20 (by decide) ?_
    exact W.iret (v := (-1)) hx hb hr  (fun t ht hW => ⟨⟨(-1), (la, si, CE), rfl, pr_e hF, qW_mk ht hP hK hW hD⟩, hS.F ht⟩) hS.2.2 dX8_sheaf_21
  · replace hF := it_n c_3 hF
    refine lv_iload_n hx hb dX8_sheaf_7 rfl (lv_at hl 2 rfl) ?_
    obtain ⟨v_4, hv_4, hF⟩ := bd_s hF
    refine ro_ze (va_runS (As := [.int p2]) (rest := []) ⟨hx, hb, hml, hown, hts⟩ (kX8_isLane l G p2 v_4 hv_4) (va_cwS 1 hts gX8_sheaf_X8_isLane rfl rfl rfl (by decide +kernel) ⟨Nat.le_of_ble_eq_true rfl, Nat.le_of_ble_eq_true rfl⟩) (psR hK (hP.sub (ws' := ([] : va_W)) [] rfl)) rfl rfl hl.1 rfl (lv_room (Nat.le_of_ble_eq_true rfl)) dX8_sheaf_8 ⟨Nat.le_of_ble_eq_true rfl, Nat.le_of_ble_eq_true rfl⟩) (fun hb_5 => ?_)
    refine lv_if_eq (tgt := 20) hx hb dX8_sheaf_11 (by decide) (fun c_6 => ?_) (fun c_6 => ?_)
    · replace hF := it_p c_6 hF
      refine lv_iconst (v := (-1)) hx hb dX8_sheaf_20 (by decide) ?_
      exact W.iret (v := (-1)) hx hb hr  (fun t ht hW => ⟨⟨(-1), (la, si, CE), rfl, pr_e hF, qW_mk ht hP hK hW hD⟩, hS.F ht⟩) hS.2.2 dX8_sheaf_21
    · replace hF := it_n c_6 hF
      refine lv_iload_n hx hb dX8_sheaf_14 rfl (lv_at hl 3 rfl) ?_
      refine lv_bipush (v := 36) hx hb dX8_sheaf_15 (by decide) ?_
      refine lv_icmp_le (tgt := 22) hx hb dX8_sheaf_17 (by decide) (fun c_7 => ?_) (fun c_7 => ?_)
      · replace hF := it_p c_7 hF
        refine lv_iload_n hx hb dX8_sheaf_22 rfl (lv_at hl 3 rfl) ?_
        refine lv_if_ge (tgt := 29) hx hb dX8_sheaf_23 (by decide) (fun c_8 => ?_) (fun c_8 => ?_)
        · replace hF := it_p c_8 hF
          refine lv_aload_n hx hb dX8_sheaf_29 rfl (lv_at hl 0 rfl) ?_
          refine va_get (ci := 8) (v := .ref qs) (C := RX8) (T := TX8) (N := 5) hx hb hts hin8 hown hK hP 0 rfl rfl 1 (by decide) hfl20 (fun _ h9 => h9) rfl dX8_sheaf_30 ?_
          refine lv_iload_n hx hb dX8_sheaf_33 rfl (lv_at hl 1 rfl) ?_
          obtain ⟨hi_9, hF⟩ := gd_in_s hF
          refine va_aldq hx hb hK hP 1 3 rfl rfl hi_9 dX8_sheaf_34 ?_
          rw [hq]
          refine lv_iload_n hx hb dX8_sheaf_35 rfl (lv_at hl 2 rfl) ?_
          refine lv_iload_n hx hb dX8_sheaf_36 rfl (lv_at hl 3 rfl) ?_
          obtain ⟨v_10, hv_10, hF⟩ := bd_s hF
          refine rw_ve (wf := (fun (u : Int32 × Int32 × (Nat → Int64)) => (wShf G f0 ac 36 u.1 u.2.1 u.2.2))) (wr := [(h0, .inr (8, [.ref d0, .ref qs, .ref qb, .ref m0, .int bc_])), (qs, .inl (gS G, 4, .inr (.inr (.inr (.inr RS)))))]) (va_runV (As := [.int p2, .int p3]) (rest := []) ⟨hx, hb, hml, hown, hts⟩ (kX5_renew l G f0 ac s.heap.size 36 la si CE p2 p3 v_10 hv_10) (cwV 2 hts gX8_sheaf_X5_renew rfl rfl rfl (by decide +kernel) ⟨Nat.le_of_ble_eq_true rfl, Nat.le_of_ble_eq_true rfl⟩) (pvW (q0 := 0) 5 hK (hP.sub (ws' := (wShf G f0 ac 36 la si CE)) [2, 3] rfl) (hD.sub (ws' := (wShf G f0 ac 36 la si CE)) [2, 3] (by decide) rfl) rfl rfl) rfl rfl hl.1 rfl (lv_room (Nat.le_of_ble_eq_true rfl)) dX8_sheaf_37 ⟨Nat.le_of_ble_eq_true rfl, Nat.le_of_ble_eq_true rfl⟩) hP hD hS hA [2, 3] [0, 1] rfl rfl (by decide) (by decide) (fun H locs  hP hD hS => ?_)
          have hP : va_P (gD G) vwCl (wXS G h0 qs f0 ac d0 qb m0 bc_ RS v_10.1 v_10.2.1 v_10.2.2) H := hP.sub [0, 1, 2, 3] rfl
          have hD : va_D A (wXS G h0 qs f0 ac d0 qb m0 bc_ RS v_10.1 v_10.2.1 v_10.2.2) := hD.sub [0, 1, 2, 3] (by decide) rfl
          refine lv_iconst (v := 1) hx hb dX8_sheaf_40 (by decide) ?_
          exact W.iret (v := 1) hx hb hr  (fun t ht hW => ⟨⟨1, (v_10.1, v_10.2.1, v_10.2.2), rfl, pr_e hF, qW_mk ht hP hK hW hD⟩, hS.F ht⟩) hS.2.2 dX8_sheaf_41
        · replace hF := it_n c_8 hF
          refine lv_bipush (v := (-14)) hx hb dX8_sheaf_26 (by decide) ?_
          exact W.iret (v := (-14)) hx hb hr  (fun t ht hW => ⟨⟨(-14), (la, si, CE), rfl, pr_e hF, qW_mk ht hP hK hW hD⟩, hS.F ht⟩) hS.2.2 dX8_sheaf_28
      · replace hF := it_n c_7 hF
        refine lv_iconst (v := (-1)) hx hb dX8_sheaf_20 (by decide) ?_
        exact W.iret (v := (-1)) hx hb hr  (fun t ht hW => ⟨⟨(-1), (la, si, CE), rfl, pr_e hF, qW_mk ht hP hK hW hD⟩, hS.F ht⟩) hS.2.2 dX8_sheaf_21
def fX8_lay (la : Int32) (si : Int32) (CE : Nat → Int64) (p1 : Int32) (p2 : Int32) (p3 : Int64) : Option (Int32 × (Nat → Int64)) :=
  (bd (fX8_isSheaf p1) (fun v_1 => (if v_1 = 0 then (some ((-1), CE)) else (gd_in p1 4 (if la = (-1) then (some ((-11), CE)) else (if p2 < 0 then (some ((-12), CE)) else (if p2 < si then (bd (fX5_put 36 la si CE p2 p3) (fun v_8 => (some (1, v_8)))) else (some ((-12), CE)))))))))
abbrev rX8_lay : Room := { frames := 1, cells := 0, slots := 0, locals := 23 }
set_option maxHeartbeats 40000000 in
set_option maxRecDepth 100000 in
theorem kX8_lay (l : Launch) (G : GT) (h0 qs f0 ac d0 qb m0 : Nat) (sz : Nat) (bc_ : Int32) (RS : Nat → Option Nat) (la : Int32) (si : Int32) (CE : Nat → Int64) (p1 : Int32) (p2 : Int32) (p3 : Int64) (hq : RS p1.toNatClampNeg = some f0) (res : Int32 × (Nat → Int64)) (hF : fX8_lay la si CE p1 p2 p3 = some res) : Met l yX8_lay wsX8_lay rX8_lay (va_Pc [.ref h0, .int p1, .int p2, .long p3] (pW G sz (wXS G h0 qs f0 ac d0 qb m0 bc_ RS la si CE))) (va_Qi (fun (r : Int32) (u : (Nat → Int64)) => r = res.1 ∧ u = res.2) (fun u t => qW G (va_A (wXS G h0 qs f0 ac d0 qb m0 bc_ RS la si CE) sz) (wXS G h0 qs f0 ac d0 qb m0 bc_ RS la si u) t) (va_A (wXS G h0 qs f0 ac d0 qb m0 bc_ RS la si CE) sz)) 0 0 (va_A (wXS G h0 qs f0 ac d0 qb m0 bc_ RS la si CE) sz) := by
  refine Met.ofW (cc := cX8_lay) (maxL := 6) (ret := (some .int)) (by decide) rfl ?_
  intro p e s m args below meth c s₁ B hml hv
  obtain ⟨rfl, hsz, hP, hK, hD0⟩ := hv
  have hx := B.exec
  have hb := B.bytes
  have hr := B.returns
  have hts := atoms_spec (ws := wsX8_lay) B.pre
  have hown : s.vm.findClass RX8 = some m.cls := findClass_of_methodNamed B.named
  have hlocks := B.notSynchronized
  subst hsz
  have hD := hD0.self (sz := s.heap.size)
  generalize hAe : va_A (wXS G h0 qs f0 ac d0 qb m0 bc_ RS la si CE) s.heap.size = A at hD ⊢
  have hA : ∀ q : Nat, s.heap.size ≤ q → A q := fun q h => by rw [← hAe]; exact Or.inr h
  have hS : va_S A s.heap s.heap [] := va_S.rf
  have hin8 : ∀ w ∈ u_ws RX8 TX8 5, w ∈ wsX8_lay := by decide +kernel
  have hfl20 := hts (.fieldLink RX8 20 "SwellBodies" "sheaves" "[LSwellBodies$Sheaf;") (by decide +kernel)
  have hin5 : ∀ w ∈ u_ws RX5 TX5 3, w ∈ wsX8_lay := by decide +kernel
  have hfl61 := hts (.fieldLink RX8 61 "SwellBodies$Sheaf" "lane" "I") (by decide +kernel)
  have hfl64 := hts (.fieldLink RX8 64 "SwellBodies$Sheaf" "size" "I") (by decide +kernel)
  have hl := lv_entry ([.ref h0, .int p1, .int p2, .long p3]) (n := 6) (Nat.le_of_ble_eq_true rfl)
  rw [lg_entry_eq]
  generalize (lg_sl ([.ref h0, .int p1, .int p2, .long p3]) ++ List.replicate (6 - (lg_sl ([.ref h0, .int p1, .int p2, .long p3])).length) Slot.unset).toArray = ls at hl ⊢
  have hl : lv_has ls 6 [(0, .ref h0), (1, .int p1), (2, .int p2), (3, .long p3)] := hl
  unfold fX8_lay at hF
  refine lv_iload_n hx hb dX8_lay_0 rfl (lv_at hl 1 rfl) ?_
  obtain ⟨v_1, hv_1, hF⟩ := bd_s hF
  refine ro_ze (va_runS (As := [.int p1]) (rest := []) ⟨hx, hb, hml, hown, hts⟩ (kX8_isSheaf l G p1 v_1 hv_1) (va_cwS 1 hts gX8_lay_X8_isSheaf rfl rfl rfl (by decide +kernel) ⟨Nat.le_of_ble_eq_true rfl, Nat.le_of_ble_eq_true rfl⟩) (psR hK (hP.sub (ws' := ([] : va_W)) [] rfl)) rfl rfl hl.1 rfl (lv_room (Nat.le_of_ble_eq_true rfl)) dX8_lay_1 ⟨Nat.le_of_ble_eq_true rfl, Nat.le_of_ble_eq_true rfl⟩) (fun hb_2 => ?_)
  refine lv_if_ne (tgt := 9) hx hb dX8_lay_4 (by decide) (fun c_3 => ?_) (fun c_3 => ?_)
  · replace hF := it_n c_3 hF
    refine lv_aload_n hx hb dX8_lay_9 rfl (lv_at hl 0 rfl) ?_
    refine va_get (ci := 8) (v := .ref qs) (C := RX8) (T := TX8) (N := 5) hx hb hts hin8 hown hK hP 0 rfl rfl 1 (by decide) hfl20 (fun _ h9 => h9) rfl dX8_lay_10 ?_
    refine lv_iload_n hx hb dX8_lay_13 rfl (lv_at hl 1 rfl) ?_
    obtain ⟨hi_4, hF⟩ := gd_in_s hF
    refine va_aldq hx hb hK hP 1 3 rfl rfl hi_4 dX8_lay_14 ?_
    rw [hq]
    refine lv_astore (lv' := [(5, .ref f0), (0, .ref h0), (1, .int p1), (2, .int p2), (3, .long p3)]) hx hb dX8_lay_15 hl (by decide) rfl (fun ls hl => ?_)
    refine lv_aload hx hb dX8_lay_17 (lv_at hl 0 rfl) ?_
    refine va_get (ci := 5) (v := .int la) (C := RX5) (T := TX5) (N := 3) hx hb hts hin5 hown hK hP 2 rfl rfl 1 (by decide) hfl61 (fun _ h9 => h9) rfl dX8_lay_19 ?_
    refine lv_iconst (v := (-1)) hx hb dX8_lay_22 (by decide) ?_
    refine lv_icmp_ne (tgt := 29) hx hb dX8_lay_23 (by decide) (fun c_5 => ?_) (fun c_5 => ?_)
    · replace hF := it_n c_5 hF
      refine lv_iload_n hx hb dX8_lay_29 rfl (lv_at hl 3 rfl) ?_
      refine lv_if_lt (tgt := 42) hx hb dX8_lay_30 (by decide) (fun c_6 => ?_) (fun c_6 => ?_)
      · replace hF := it_p c_6 hF
        refine lv_bipush (v := (-12)) hx hb dX8_lay_42 (by decide) ?_
        exact W.iret (v := (-12)) hx hb hr  (fun t ht hW => ⟨⟨(-12), CE, rfl, pr_e hF, qW_mk ht hP hK hW hD⟩, hS.F ht⟩) hS.2.2 dX8_lay_44
      · replace hF := it_n c_6 hF
        refine lv_iload_n hx hb dX8_lay_33 rfl (lv_at hl 3 rfl) ?_
        refine lv_aload hx hb dX8_lay_34 (lv_at hl 0 rfl) ?_
        refine va_get (ci := 5) (v := .int si) (C := RX5) (T := TX5) (N := 3) hx hb hts hin5 hown hK hP 2 rfl rfl 2 (by decide) hfl64 (fun _ h9 => h9) rfl dX8_lay_36 ?_
        refine lv_icmp_lt (tgt := 45) hx hb dX8_lay_39 (by decide) (fun c_7 => ?_) (fun c_7 => ?_)
        · replace hF := it_p c_7 hF
          refine lv_aload hx hb dX8_lay_45 (lv_at hl 0 rfl) ?_
          refine lv_iload_n hx hb dX8_lay_47 rfl (lv_at hl 3 rfl) ?_
          refine lv_lload_n hx hb dX8_lay_48 rfl (lv_at hl 4 rfl) ?_
          obtain ⟨v_8, hv_8, hF⟩ := bd_s hF
          refine rw_ve (wf := (fun (u : (Nat → Int64)) => (wShf G f0 ac 36 la si u))) (wr := [(h0, .inr (8, [.ref d0, .ref qs, .ref qb, .ref m0, .int bc_])), (qs, .inl (gS G, 4, .inr (.inr (.inr (.inr RS)))))]) (va_runV (As := [.int p2, .long p3]) (rest := []) ⟨hx, hb, hml, hown, hts⟩ (kX5_put l G f0 ac s.heap.size 36 la si CE p2 p3 v_8 hv_8) (cwV 2 hts gX8_lay_X5_put rfl rfl rfl (by decide +kernel) ⟨Nat.le_of_ble_eq_true rfl, Nat.le_of_ble_eq_true rfl⟩) (pvW (q0 := 0) 5 hK (hP.sub (ws' := (wShf G f0 ac 36 la si CE)) [2, 3] rfl) (hD.sub (ws' := (wShf G f0 ac 36 la si CE)) [2, 3] (by decide) rfl) rfl rfl) rfl rfl hl.1 rfl (lv_room (Nat.le_of_ble_eq_true rfl)) dX8_lay_49 ⟨Nat.le_of_ble_eq_true rfl, Nat.le_of_ble_eq_true rfl⟩) hP hD hS hA [2, 3] [0, 1] rfl rfl (by decide) (by decide) (fun H locs  hP hD hS => ?_)
          have hP : va_P (gD G) vwCl (wXS G h0 qs f0 ac d0 qb m0 bc_ RS la si v_8) H := hP.sub [0, 1, 2, 3] rfl
          have hD : va_D A (wXS G h0 qs f0 ac d0 qb m0 bc_ RS la si v_8) := hD.sub [0, 1, 2, 3] (by decide) rfl
          refine lv_iconst (v := 1) hx hb dX8_lay_52 (by decide) ?_
          exact W.iret (v := 1) hx hb hr  (fun t ht hW => ⟨⟨1, v_8, rfl, pr_e hF, qW_mk ht hP hK hW hD⟩, hS.F ht⟩) hS.2.2 dX8_lay_53
        · replace hF := it_n c_7 hF
          refine lv_bipush (v := (-12)) hx hb dX8_lay_42 (by decide) ?_
          exact W.iret (v := (-12)) hx hb hr  (fun t ht hW => ⟨⟨(-12), CE, rfl, pr_e hF, qW_mk ht hP hK hW hD⟩, hS.F ht⟩) hS.2.2 dX8_lay_44
    · replace hF := it_p c_5 hF
      refine lv_bipush (v := (-11)) hx hb dX8_lay_26 (by decide) ?_
      exact W.iret (v := (-11)) hx hb hr  (fun t ht hW => ⟨⟨(-11), CE, rfl, pr_e hF, qW_mk ht hP hK hW hD⟩, hS.F ht⟩) hS.2.2 dX8_lay_28
  · replace hF := it_p c_3 hF
    refine lv_iconst (v := (-1)) hx hb dX8_lay_7 (by decide) ?_
    exact W.iret (v := (-1)) hx hb hr  (fun t ht hW => ⟨⟨(-1), CE, rfl, pr_e hF, qW_mk ht hP hK hW hD⟩, hS.F ht⟩) hS.2.2 dX8_lay_8
def fX8_refusalOf (ds : Int32) (si : Int32) (CE : Nat → Int64) (p1 : Int32) : Option (Int32) :=
  (if p1 < si / 3 then (bd (fX5_cell 36 si CE (3 * p1)) (fun v_2 => (bd (fX5_cell 36 si CE ((3 * p1) + 1)) (fun v_3 => (bd (fX5_cell 36 si CE ((3 * p1) + 2)) (fun v_4 => (bd (fX8_inReach v_2 v_3 v_4) (fun v_5 => (if v_5 = 0 then (some (-1)) else (if ds + p1 < 12 then (some 0) else (some (-3)))))))))))) else (some (-12)))
abbrev rX8_refusalOf : Room := { frames := 2, cells := 0, slots := 0, locals := 47 }
set_option maxHeartbeats 40000000 in
set_option maxRecDepth 100000 in
theorem kX8_refusalOf (l : Launch) (G : GT) (h0 d0 dx dy dz f0 ac qs qb m0 : Nat) (bc_ : Int32) (ds : Int32) (DX : Nat → Int32) (DY : Nat → Int32) (DZ : Nat → Int32) (la : Int32) (si : Int32) (CE : Nat → Int64) (p1 : Int32) (res : Int32) (hF : fX8_refusalOf ds si CE p1 = some res) : Met l yX8_refusalOf wsX8_refusalOf rX8_refusalOf (va_Pc [.ref h0, .ref f0, .int p1] (pR G (wXRD G h0 d0 dx dy dz f0 ac qs qb m0 bc_ ds DX DY DZ la si CE))) (vp_Si (fun r => r = res)) 0 0 (fun _ => False) := by
  refine Met.ofW (cc := cX8_refusalOf) (maxL := 3) (ret := (some .int)) (by decide) rfl ?_
  intro p e s m args below meth c s₁ B hml hv
  obtain ⟨rfl, hP, hK⟩ := hv
  have hx := B.exec
  have hb := B.bytes
  have hr := B.returns
  have hts := atoms_spec (ws := wsX8_refusalOf) B.pre
  have hown : s.vm.findClass RX8 = some m.cls := findClass_of_methodNamed B.named
  have hlocks := B.notSynchronized
  have hin5 : ∀ w ∈ u_ws RX5 TX5 3, w ∈ wsX8_refusalOf := by decide +kernel
  have hfl64 := hts (.fieldLink RX8 64 "SwellBodies$Sheaf" "size" "I") (by decide +kernel)
  have hin8 : ∀ w ∈ u_ws RX8 TX8 5, w ∈ wsX8_refusalOf := by decide +kernel
  have hfl14 := hts (.fieldLink RX8 14 "SwellBodies" "draft" "LSwellBodies$Points;") (by decide +kernel)
  have hin4 : ∀ w ∈ u_ws RX4 TX4 4, w ∈ wsX8_refusalOf := by decide +kernel
  have hfl42 := hts (.fieldLink RX8 42 "SwellBodies$Points" "size" "I") (by decide +kernel)
  have hl := lv_entry ([.ref h0, .ref f0, .int p1]) (n := 3) (Nat.le_of_ble_eq_true rfl)
  rw [lg_entry_eq]
  generalize (lg_sl ([.ref h0, .ref f0, .int p1]) ++ List.replicate (3 - (lg_sl ([.ref h0, .ref f0, .int p1])).length) Slot.unset).toArray = ls at hl ⊢
  have hl : lv_has ls 3 [(0, .ref h0), (1, .ref f0), (2, .int p1)] := hl
  unfold fX8_refusalOf at hF
  refine lv_iload_n hx hb dX8_refusalOf_0 rfl (lv_at hl 2 rfl) ?_
  refine lv_aload_n hx hb dX8_refusalOf_1 rfl (lv_at hl 1 rfl) ?_
  refine va_get (ci := 5) (v := .int si) (C := RX5) (T := TX5) (N := 3) hx hb hts hin5 hown hK hP 5 rfl rfl 2 (by decide) hfl64 (fun _ h9 => h9) rfl dX8_refusalOf_2 ?_
  refine lv_iconst (v := 3) hx hb dX8_refusalOf_5 (by decide) ?_
  refine lv_idiv hx hb dX8_refusalOf_6 (by decide) ?_
  refine lv_icmp_lt (tgt := 13) hx hb dX8_refusalOf_7 (by decide) (fun c_1 => ?_) (fun c_1 => ?_)
  · replace hF := it_p c_1 hF
    refine lv_aload_n hx hb dX8_refusalOf_13 rfl (lv_at hl 1 rfl) ?_
    refine lv_iconst (v := 3) hx hb dX8_refusalOf_14 (by decide) ?_
    refine lv_iload_n hx hb dX8_refusalOf_15 rfl (lv_at hl 2 rfl) ?_
    refine lv_imul hx hb dX8_refusalOf_16 ?_
    obtain ⟨v_2, hv_2, hF⟩ := bd_s hF
    refine ro_le (va_runV (As := [.int (3 * p1)]) (rest := []) ⟨hx, hb, hml, hown, hts⟩ (kX5_cell l G f0 ac 36 la si CE (3 * p1) v_2 hv_2) (cwV 1 hts gX8_refusalOf_X5_cell rfl rfl rfl (by decide +kernel) ⟨Nat.le_of_ble_eq_true rfl, Nat.le_of_ble_eq_true rfl⟩) (pvR (q0 := 0) 5 hK (hP.sub (ws' := (wShf G f0 ac 36 la si CE)) [5, 6] rfl) rfl rfl) rfl rfl hl.1 rfl (lv_room (Nat.le_of_ble_eq_true rfl)) dX8_refusalOf_17 ⟨Nat.le_of_ble_eq_true rfl, Nat.le_of_ble_eq_true rfl⟩) ?_
    refine lv_aload_n hx hb dX8_refusalOf_20 rfl (lv_at hl 1 rfl) ?_
    refine lv_iconst (v := 3) hx hb dX8_refusalOf_21 (by decide) ?_
    refine lv_iload_n hx hb dX8_refusalOf_22 rfl (lv_at hl 2 rfl) ?_
    refine lv_imul hx hb dX8_refusalOf_23 ?_
    refine lv_iconst (v := 1) hx hb dX8_refusalOf_24 (by decide) ?_
    refine lv_iadd hx hb dX8_refusalOf_25 ?_
    obtain ⟨v_3, hv_3, hF⟩ := bd_s hF
    refine ro_le (va_runV (As := [.int ((3 * p1) + 1)]) (rest := [.long v_2]) ⟨hx, hb, hml, hown, hts⟩ (kX5_cell l G f0 ac 36 la si CE ((3 * p1) + 1) v_3 hv_3) (cwV 1 hts gX8_refusalOf_X5_cell rfl rfl rfl (by decide +kernel) ⟨Nat.le_of_ble_eq_true rfl, Nat.le_of_ble_eq_true rfl⟩) (pvR (q0 := 0) 5 hK (hP.sub (ws' := (wShf G f0 ac 36 la si CE)) [5, 6] rfl) rfl rfl) rfl rfl hl.1 rfl (lv_room (Nat.le_of_ble_eq_true rfl)) dX8_refusalOf_26 ⟨Nat.le_of_ble_eq_true rfl, Nat.le_of_ble_eq_true rfl⟩) ?_
    refine lv_aload_n hx hb dX8_refusalOf_29 rfl (lv_at hl 1 rfl) ?_
    refine lv_iconst (v := 3) hx hb dX8_refusalOf_30 (by decide) ?_
    refine lv_iload_n hx hb dX8_refusalOf_31 rfl (lv_at hl 2 rfl) ?_
    refine lv_imul hx hb dX8_refusalOf_32 ?_
    refine lv_iconst (v := 2) hx hb dX8_refusalOf_33 (by decide) ?_
    refine lv_iadd hx hb dX8_refusalOf_34 ?_
    obtain ⟨v_4, hv_4, hF⟩ := bd_s hF
    refine ro_le (va_runV (As := [.int ((3 * p1) + 2)]) (rest := [.long v_3, .long v_2]) ⟨hx, hb, hml, hown, hts⟩ (kX5_cell l G f0 ac 36 la si CE ((3 * p1) + 2) v_4 hv_4) (cwV 1 hts gX8_refusalOf_X5_cell rfl rfl rfl (by decide +kernel) ⟨Nat.le_of_ble_eq_true rfl, Nat.le_of_ble_eq_true rfl⟩) (pvR (q0 := 0) 5 hK (hP.sub (ws' := (wShf G f0 ac 36 la si CE)) [5, 6] rfl) rfl rfl) rfl rfl hl.1 rfl (lv_room (Nat.le_of_ble_eq_true rfl)) dX8_refusalOf_35 ⟨Nat.le_of_ble_eq_true rfl, Nat.le_of_ble_eq_true rfl⟩) ?_
    obtain ⟨v_5, hv_5, hF⟩ := bd_s hF
    refine ro_ze (va_runS (As := [.long v_2, .long v_3, .long v_4]) (rest := []) ⟨hx, hb, hml, hown, hts⟩ (kX8_inReach l G v_2 v_3 v_4 v_5 hv_5) (va_cwS 3 hts gX8_refusalOf_X8_inReach rfl rfl rfl (by decide +kernel) ⟨Nat.le_of_ble_eq_true rfl, Nat.le_of_ble_eq_true rfl⟩) (psR hK (hP.sub (ws' := ([] : va_W)) [] rfl)) rfl rfl hl.1 rfl (lv_room (Nat.le_of_ble_eq_true rfl)) dX8_refusalOf_38 ⟨Nat.le_of_ble_eq_true rfl, Nat.le_of_ble_eq_true rfl⟩) (fun hb_6 => ?_)
    refine lv_if_ne (tgt := 46) hx hb dX8_refusalOf_41 (by decide) (fun c_7 => ?_) (fun c_7 => ?_)
    · replace hF := it_n c_7 hF
      refine lv_aload_n hx hb dX8_refusalOf_46 rfl (lv_at hl 0 rfl) ?_
      refine va_get (ci := 8) (v := .ref d0) (C := RX8) (T := TX8) (N := 5) hx hb hts hin8 hown hK hP 0 rfl rfl 0 (by decide) hfl14 (fun _ h9 => h9) rfl dX8_refusalOf_47 ?_
      refine va_get (ci := 4) (v := .int ds) (C := RX4) (T := TX4) (N := 4) hx hb hts hin4 hown hK hP 1 rfl rfl 3 (by decide) hfl42 (fun _ h9 => h9) rfl dX8_refusalOf_50 ?_
      refine lv_iload_n hx hb dX8_refusalOf_53 rfl (lv_at hl 2 rfl) ?_
      refine lv_iadd hx hb dX8_refusalOf_54 ?_
      refine lv_bipush (v := 12) hx hb dX8_refusalOf_55 (by decide) ?_
      refine lv_icmp_lt (tgt := 65) hx hb dX8_refusalOf_57 (by decide) (fun c_8 => ?_) (fun c_8 => ?_)
      · replace hF := it_p c_8 hF
        refine lv_iconst (v := 0) hx hb dX8_refusalOf_65 (by decide) ?_
        exact W.iret (v := 0) hx hb hr  (fun t ht hW => ⟨0, rfl, (so_e hF), ht⟩) (fun q h => absurd h List.not_mem_nil) dX8_refusalOf_66
      · replace hF := it_n c_8 hF
        refine lv_bipush (v := (-3)) hx hb dX8_refusalOf_60 (by decide) ?_
        refine lv_goto (tgt := 66) hx hb dX8_refusalOf_62 (by decide) ?_
        exact W.iret (v := (-3)) hx hb hr  (fun t ht hW => ⟨(-3), rfl, (so_e hF), ht⟩) (fun q h => absurd h List.not_mem_nil) dX8_refusalOf_66
    · replace hF := it_p c_7 hF
      refine lv_iconst (v := (-1)) hx hb dX8_refusalOf_44 (by decide) ?_
      exact W.iret (v := (-1)) hx hb hr  (fun t ht hW => ⟨(-1), rfl, (so_e hF), ht⟩) (fun q h => absurd h List.not_mem_nil) dX8_refusalOf_45
  · replace hF := it_n c_1 hF
    refine lv_bipush (v := (-12)) hx hb dX8_refusalOf_10 (by decide) ?_
    exact W.iret (v := (-12)) hx hb hr  (fun t ht hW => ⟨(-12), rfl, (so_e hF), ht⟩) (fun q h => absurd h List.not_mem_nil) dX8_refusalOf_12
def LX8_draw_88 (la : Int32) (si : Int32) (CE : Nat → Int64)  : Nat → Int32 → Int32 → Int32 → (Nat → Int32) → (Nat → Int32) → (Nat → Int32) → Option (Int32 × Int32 × (Nat → Int32) × (Nat → Int32) × (Nat → Int32))
  | 0, _, _, _, _, _, _ => none
  | k + 1, a3, a5, mds, mDX, mDY, mDZ =>
  (if a3 ≤ a5 then (some (mds, mds, mDX, mDY, mDZ)) else (bd (fX5_cell 36 si CE (3 * a5)) (fun v_13 => (bd (fX5_cell 36 si CE ((3 * a5) + 1)) (fun v_14 => (bd (fX5_cell 36 si CE ((3 * a5) + 2)) (fun v_15 => (bd (fX4_put 12 mds mDX mDY mDZ v_13.toInt32 v_14.toInt32 v_15.toInt32) (fun v_16 => (LX8_draw_88 la si CE k a3 (a5 + 1) v_16.1 v_16.2.1 v_16.2.2.1 v_16.2.2.2))))))))))
def LX8_draw_55 (la : Int32) (si : Int32) (CE : Nat → Int64)  : Nat → Int32 → Int32 → Int32 → (Nat → Int32) → (Nat → Int32) → (Nat → Int32) → Option (Int32 × Int32 × (Nat → Int32) × (Nat → Int32) × (Nat → Int32))
  | 0, _, _, _, _, _, _ => none
  | k + 1, a3, a5, mds, mDX, mDY, mDZ =>
  (if a3 ≤ a5 then (LX8_draw_88 la si CE FU a3 0 mds mDX mDY mDZ) else (bd (fX8_refusalOf mds si CE a5) (fun v_17 => (if v_17 = 0 then (LX8_draw_55 la si CE k a3 (a5 + 1) mds mDX mDY mDZ) else (some (v_17, mds, mDX, mDY, mDZ))))))
def fX8_draw (ds : Int32) (DX : Nat → Int32) (DY : Nat → Int32) (DZ : Nat → Int32) (la : Int32) (si : Int32) (CE : Nat → Int64) (p1 : Int32) (p2 : Int32) (p3 : Int32) : Option (Int32 × Int32 × (Nat → Int32) × (Nat → Int32) × (Nat → Int32)) :=
  (bd (fX8_isSheaf p1) (fun v_1 => (if v_1 = 0 then (some ((-1), ds, DX, DY, DZ)) else (bd (fX8_isLane p2) (fun v_4 => (if v_4 = 0 then (some ((-1), ds, DX, DY, DZ)) else (if 0 ≤ p3 then (gd_in p1 4 (if la = (-1) then (some ((-11), ds, DX, DY, DZ)) else (if la = p2 then (LX8_draw_55 la si CE FU p3 0 ds DX DY DZ) else (some ((-13), ds, DX, DY, DZ))))) else (some ((-1), ds, DX, DY, DZ)))))))))
abbrev rX8_draw : Room := { frames := 3, cells := 0, slots := 0, locals := 69 }
set_option maxHeartbeats 40000000 in
set_option maxRecDepth 100000 in
theorem kX8_draw (l : Launch) (G : GT) (h0 d0 dx dy dz qs f0 ac qb m0 : Nat) (sz : Nat) (bc_ : Int32) (ds : Int32) (DX : Nat → Int32) (DY : Nat → Int32) (DZ : Nat → Int32) (RS : Nat → Option Nat) (la : Int32) (si : Int32) (CE : Nat → Int64) (p1 : Int32) (p2 : Int32) (p3 : Int32) (hq : RS p1.toNatClampNeg = some f0) (res : Int32 × Int32 × (Nat → Int32) × (Nat → Int32) × (Nat → Int32)) (hF : fX8_draw ds DX DY DZ la si CE p1 p2 p3 = some res) : Met l yX8_draw wsX8_draw rX8_draw (va_Pc [.ref h0, .int p1, .int p2, .int p3] (pW G sz (wXSD G h0 d0 dx dy dz qs f0 ac qb m0 bc_ ds DX DY DZ RS la si CE))) (va_Qi (fun (r : Int32) (u : Int32 × (Nat → Int32) × (Nat → Int32) × (Nat → Int32)) => r = res.1 ∧ u = res.2) (fun u t => qW G (va_A (wXSD G h0 d0 dx dy dz qs f0 ac qb m0 bc_ ds DX DY DZ RS la si CE) sz) (wXSD G h0 d0 dx dy dz qs f0 ac qb m0 bc_ u.1 u.2.1 u.2.2.1 u.2.2.2 RS la si CE) t) (va_A (wXSD G h0 d0 dx dy dz qs f0 ac qb m0 bc_ ds DX DY DZ RS la si CE) sz)) 0 0 (va_A (wXSD G h0 d0 dx dy dz qs f0 ac qb m0 bc_ ds DX DY DZ RS la si CE) sz) := by
  refine Met.ofW (cc := cX8_draw) (maxL := 7) (ret := (some .int)) (by decide) rfl ?_
  intro p e s m args below meth c s₁ B hml hv
  obtain ⟨rfl, hsz, hP, hK, hD0⟩ := hv
  have hx := B.exec
  have hb := B.bytes
  have hr := B.returns
  have hts := atoms_spec (ws := wsX8_draw) B.pre
  have hown : s.vm.findClass RX8 = some m.cls := findClass_of_methodNamed B.named
  have hlocks := B.notSynchronized
  subst hsz
  have hD := hD0.self (sz := s.heap.size)
  generalize hAe : va_A (wXSD G h0 d0 dx dy dz qs f0 ac qb m0 bc_ ds DX DY DZ RS la si CE) s.heap.size = A at hD ⊢
  have hA : ∀ q : Nat, s.heap.size ≤ q → A q := fun q h => by rw [← hAe]; exact Or.inr h
  have hS : va_S A s.heap s.heap [] := va_S.rf
  have hin8 : ∀ w ∈ u_ws RX8 TX8 5, w ∈ wsX8_draw := by decide +kernel
  have hfl20 := hts (.fieldLink RX8 20 "SwellBodies" "sheaves" "[LSwellBodies$Sheaf;") (by decide +kernel)
  have hin5 : ∀ w ∈ u_ws RX5 TX5 3, w ∈ wsX8_draw := by decide +kernel
  have hfl61 := hts (.fieldLink RX8 61 "SwellBodies$Sheaf" "lane" "I") (by decide +kernel)
  have hfl14 := hts (.fieldLink RX8 14 "SwellBodies" "draft" "LSwellBodies$Points;") (by decide +kernel)
  have hin4 : ∀ w ∈ u_ws RX4 TX4 4, w ∈ wsX8_draw := by decide +kernel
  have hfl42 := hts (.fieldLink RX8 42 "SwellBodies$Points" "size" "I") (by decide +kernel)
  have hl := lv_entry ([.ref h0, .int p1, .int p2, .int p3]) (n := 7) (Nat.le_of_ble_eq_true rfl)
  rw [lg_entry_eq]
  generalize (lg_sl ([.ref h0, .int p1, .int p2, .int p3]) ++ List.replicate (7 - (lg_sl ([.ref h0, .int p1, .int p2, .int p3])).length) Slot.unset).toArray = ls at hl ⊢
  have hl : lv_has ls 7 [(0, .ref h0), (1, .int p1), (2, .int p2), (3, .int p3)] := hl
  have hL88 : ∀ (k : Nat), ∀ (a3 : Int32) (a5 : Int32) (mds : Int32) (mDX : Nat → Int32) (mDY : Nat → Int32) (mDZ : Nat → Int32) (H : Heap) (locs : List Loc) (ls : Array Slot), LX8_draw_88 la si CE k a3 a5 mds mDX mDY mDZ = some res → va_P (gD G) vwCl (wXSD G h0 d0 dx dy dz qs f0 ac qb m0 bc_ mds mDX mDY mDZ RS la si CE) H → va_D A (wXSD G h0 d0 dx dy dz qs f0 ac qb m0 bc_ mds mDX mDY mDZ RS la si CE) → va_S A s.heap H locs → lv_has ls 7 [(0, .ref h0), (3, .int a3), (4, .ref f0), (5, .int a5)] → W p l e (headSpec wsX8_draw rX8_draw).room s m ([.ref h0, .int p1, .int p2, .int p3] : List Value).toArray below meth c H locs 0 0 (MQ below (va_Qi (fun (r : Int32) (u : Int32 × (Nat → Int32) × (Nat → Int32) × (Nat → Int32)) => r = res.1 ∧ u = res.2) (fun u t => qW G A (wXSD G h0 d0 dx dy dz qs f0 ac qb m0 bc_ u.1 u.2.1 u.2.2.1 u.2.2.2 RS la si CE) t) A) ([.ref h0, .int p1, .int p2, .int p3] : List Value).toArray s 0 0 A) (F0 m 88 ls []) := by
    intro k
    induction k with
    | zero =>
      intro a3 a5 mds mDX mDY mDZ H locs ls hF hP hD hS hl
      rw [LX8_draw_88] at hF
      cases hF
    | succ k ih =>
      intro a3 a5 mds mDX mDY mDZ H locs ls hF hP hD hS hl
      rw [LX8_draw_88] at hF
      refine lv_iload hx hb dX8_draw_88 (lv_at hl 3 rfl) ?_
      refine lv_iload_n hx hb dX8_draw_90 rfl (lv_at hl 1 rfl) ?_
      refine lv_icmp_ge (tgt := 141) hx hb dX8_draw_91 (by decide) (fun c_12 => ?_) (fun c_12 => ?_)
      · replace hF := it_p c_12 hF
        refine lv_aload_n hx hb dX8_draw_141 rfl (lv_at hl 0 rfl) ?_
        refine va_get (ci := 8) (v := .ref d0) (C := RX8) (T := TX8) (N := 5) hx hb hts hin8 hown hK hP 0 rfl rfl 0 (by decide) hfl14 (fun _ h9 => h9) rfl dX8_draw_142 ?_
        refine va_get (ci := 4) (v := .int mds) (C := RX4) (T := TX4) (N := 4) hx hb hts hin4 hown hK hP 1 rfl rfl 3 (by decide) hfl42 (fun _ h9 => h9) rfl dX8_draw_145 ?_
        exact W.iret (v := mds) hx hb hr  (fun t ht hW => ⟨⟨mds, (mds, mDX, mDY, mDZ), rfl, pr_e hF, qW_mk ht hP hK hW hD⟩, hS.F ht⟩) hS.2.2 dX8_draw_148
      · replace hF := it_n c_12 hF
        refine lv_aload_n hx hb dX8_draw_94 rfl (lv_at hl 0 rfl) ?_
        refine va_get (ci := 8) (v := .ref d0) (C := RX8) (T := TX8) (N := 5) hx hb hts hin8 hown hK hP 0 rfl rfl 0 (by decide) hfl14 (fun _ h9 => h9) rfl dX8_draw_95 ?_
        refine lv_aload hx hb dX8_draw_98 (lv_at hl 2 rfl) ?_
        refine lv_iconst (v := 3) hx hb dX8_draw_100 (by decide) ?_
        refine lv_iload hx hb dX8_draw_101 (lv_at hl 3 rfl) ?_
        refine lv_imul hx hb dX8_draw_103 ?_
        obtain ⟨v_13, hv_13, hF⟩ := bd_s hF
        refine ro_le (va_runV (As := [.int (3 * a5)]) (rest := [.ref d0]) ⟨hx, hb, hml, hown, hts⟩ (kX5_cell l G f0 ac 36 la si CE (3 * a5) v_13 hv_13) (cwV 1 hts gX8_draw_X5_cell rfl rfl rfl (by decide +kernel) ⟨Nat.le_of_ble_eq_true rfl, Nat.le_of_ble_eq_true rfl⟩) (pvR (q0 := 0) 5 hK (hP.sub (ws' := (wShf G f0 ac 36 la si CE)) [6, 7] rfl) rfl rfl) rfl rfl hl.1 rfl (lv_room (Nat.le_of_ble_eq_true rfl)) dX8_draw_104 ⟨Nat.le_of_ble_eq_true rfl, Nat.le_of_ble_eq_true rfl⟩) ?_
        refine lv_l2i hx hb dX8_draw_107 rfl ?_
        refine lv_aload hx hb dX8_draw_108 (lv_at hl 2 rfl) ?_
        refine lv_iconst (v := 3) hx hb dX8_draw_110 (by decide) ?_
        refine lv_iload hx hb dX8_draw_111 (lv_at hl 3 rfl) ?_
        refine lv_imul hx hb dX8_draw_113 ?_
        refine lv_iconst (v := 1) hx hb dX8_draw_114 (by decide) ?_
        refine lv_iadd hx hb dX8_draw_115 ?_
        obtain ⟨v_14, hv_14, hF⟩ := bd_s hF
        refine ro_le (va_runV (As := [.int ((3 * a5) + 1)]) (rest := [.int v_13.toInt32, .ref d0]) ⟨hx, hb, hml, hown, hts⟩ (kX5_cell l G f0 ac 36 la si CE ((3 * a5) + 1) v_14 hv_14) (cwV 1 hts gX8_draw_X5_cell rfl rfl rfl (by decide +kernel) ⟨Nat.le_of_ble_eq_true rfl, Nat.le_of_ble_eq_true rfl⟩) (pvR (q0 := 0) 5 hK (hP.sub (ws' := (wShf G f0 ac 36 la si CE)) [6, 7] rfl) rfl rfl) rfl rfl hl.1 rfl (lv_room (Nat.le_of_ble_eq_true rfl)) dX8_draw_116 ⟨Nat.le_of_ble_eq_true rfl, Nat.le_of_ble_eq_true rfl⟩) ?_
        refine lv_l2i hx hb dX8_draw_119 rfl ?_
        refine lv_aload hx hb dX8_draw_120 (lv_at hl 2 rfl) ?_
        refine lv_iconst (v := 3) hx hb dX8_draw_122 (by decide) ?_
        refine lv_iload hx hb dX8_draw_123 (lv_at hl 3 rfl) ?_
        refine lv_imul hx hb dX8_draw_125 ?_
        refine lv_iconst (v := 2) hx hb dX8_draw_126 (by decide) ?_
        refine lv_iadd hx hb dX8_draw_127 ?_
        obtain ⟨v_15, hv_15, hF⟩ := bd_s hF
        refine ro_le (va_runV (As := [.int ((3 * a5) + 2)]) (rest := [.int v_14.toInt32, .int v_13.toInt32, .ref d0]) ⟨hx, hb, hml, hown, hts⟩ (kX5_cell l G f0 ac 36 la si CE ((3 * a5) + 2) v_15 hv_15) (cwV 1 hts gX8_draw_X5_cell rfl rfl rfl (by decide +kernel) ⟨Nat.le_of_ble_eq_true rfl, Nat.le_of_ble_eq_true rfl⟩) (pvR (q0 := 0) 5 hK (hP.sub (ws' := (wShf G f0 ac 36 la si CE)) [6, 7] rfl) rfl rfl) rfl rfl hl.1 rfl (lv_room (Nat.le_of_ble_eq_true rfl)) dX8_draw_128 ⟨Nat.le_of_ble_eq_true rfl, Nat.le_of_ble_eq_true rfl⟩) ?_
        refine lv_l2i hx hb dX8_draw_131 rfl ?_
        obtain ⟨v_16, hv_16, hF⟩ := bd_s hF
        refine rw_ve (wf := (fun (u : Int32 × (Nat → Int32) × (Nat → Int32) × (Nat → Int32)) => (wPts G d0 dx dy dz 12 u.1 u.2.1 u.2.2.1 u.2.2.2))) (wr := [(h0, .inr (8, [.ref d0, .ref qs, .ref qb, .ref m0, .int bc_])), (qs, .inl (gS G, 4, .inr (.inr (.inr (.inr RS))))), (f0, .inr (5, [.ref ac, .int la, .int si])), (ac, .inl (gJ G, 36, .inr (.inl CE)))]) (va_runV (As := [.int v_13.toInt32, .int v_14.toInt32, .int v_15.toInt32]) (rest := []) ⟨hx, hb, hml, hown, hts⟩ (kX4_put l G d0 dx dy dz H.size 12 mds mDX mDY mDZ v_13.toInt32 v_14.toInt32 v_15.toInt32 v_16 hv_16) (cwV 3 hts gX8_draw_X4_put rfl rfl rfl (by decide +kernel) ⟨Nat.le_of_ble_eq_true rfl, Nat.le_of_ble_eq_true rfl⟩) (pvW (q0 := 0) 4 hK (hP.sub (ws' := (wPts G d0 dx dy dz 12 mds mDX mDY mDZ)) [1, 2, 3, 4] rfl) (hD.sub (ws' := (wPts G d0 dx dy dz 12 mds mDX mDY mDZ)) [1, 2, 3, 4] (by decide) rfl) rfl rfl) rfl rfl hl.1 rfl (lv_room (Nat.le_of_ble_eq_true rfl)) dX8_draw_132 ⟨Nat.le_of_ble_eq_true rfl, Nat.le_of_ble_eq_true rfl⟩) hP hD hS hA [1, 2, 3, 4] [0, 5, 6, 7] rfl rfl (by decide) (by decide) (fun H locs  hP hD hS => ?_)
        have hP : va_P (gD G) vwCl (wXSD G h0 d0 dx dy dz qs f0 ac qb m0 bc_ v_16.1 v_16.2.1 v_16.2.2.1 v_16.2.2.2 RS la si CE) H := hP.sub [0, 4, 5, 6, 7, 1, 2, 3] rfl
        have hD : va_D A (wXSD G h0 d0 dx dy dz qs f0 ac qb m0 bc_ v_16.1 v_16.2.1 v_16.2.2.1 v_16.2.2.2 RS la si CE) := hD.sub [0, 4, 5, 6, 7, 1, 2, 3] (by decide) rfl
        refine lv_iinc (v := a5 + 1) (lv' := [(5, .int (a5 + 1)), (0, .ref h0), (3, .int a3), (4, .ref f0)]) hx hb dX8_draw_135 hl (k := 3) rfl rfl (by decide) rfl (fun ls hl => ?_)
        refine lv_goto (tgt := 88) hx hb dX8_draw_138 (by decide) ?_
        exact ih a3 (a5 + 1) v_16.1 v_16.2.1 v_16.2.2.1 v_16.2.2.2 _ _ _ hF hP hD hS (lv_sub hl [1, 2, 3, 0] rfl)
  have hL55 : ∀ (k : Nat), ∀ (a3 : Int32) (a5 : Int32) (mds : Int32) (mDX : Nat → Int32) (mDY : Nat → Int32) (mDZ : Nat → Int32) (H : Heap) (locs : List Loc) (ls : Array Slot), LX8_draw_55 la si CE k a3 a5 mds mDX mDY mDZ = some res → va_P (gD G) vwCl (wXSD G h0 d0 dx dy dz qs f0 ac qb m0 bc_ mds mDX mDY mDZ RS la si CE) H → va_D A (wXSD G h0 d0 dx dy dz qs f0 ac qb m0 bc_ mds mDX mDY mDZ RS la si CE) → va_S A s.heap H locs → lv_has ls 7 [(0, .ref h0), (3, .int a3), (4, .ref f0), (5, .int a5)] → W p l e (headSpec wsX8_draw rX8_draw).room s m ([.ref h0, .int p1, .int p2, .int p3] : List Value).toArray below meth c H locs 0 0 (MQ below (va_Qi (fun (r : Int32) (u : Int32 × (Nat → Int32) × (Nat → Int32) × (Nat → Int32)) => r = res.1 ∧ u = res.2) (fun u t => qW G A (wXSD G h0 d0 dx dy dz qs f0 ac qb m0 bc_ u.1 u.2.1 u.2.2.1 u.2.2.2 RS la si CE) t) A) ([.ref h0, .int p1, .int p2, .int p3] : List Value).toArray s 0 0 A) (F0 m 55 ls []) := by
    intro k
    induction k with
    | zero =>
      intro a3 a5 mds mDX mDY mDZ H locs ls hF hP hD hS hl
      rw [LX8_draw_55] at hF
      cases hF
    | succ k ih =>
      intro a3 a5 mds mDX mDY mDZ H locs ls hF hP hD hS hl
      rw [LX8_draw_55] at hF
      refine lv_iload hx hb dX8_draw_55 (lv_at hl 3 rfl) ?_
      refine lv_iload_n hx hb dX8_draw_57 rfl (lv_at hl 1 rfl) ?_
      refine lv_icmp_ge (tgt := 85) hx hb dX8_draw_58 (by decide) (fun c_11 => ?_) (fun c_11 => ?_)
      · replace hF := it_p c_11 hF
        refine lv_iconst (v := 0) hx hb dX8_draw_85 (by decide) ?_
        refine lv_istore (lv' := [(5, .int 0), (0, .ref h0), (3, .int a3), (4, .ref f0)]) hx hb dX8_draw_86 hl (by decide) rfl (fun ls hl => ?_)
        exact hL88 FU a3 0 mds mDX mDY mDZ _ _ _ hF hP hD hS (lv_sub hl [1, 2, 3, 0] rfl)
      · replace hF := it_n c_11 hF
        refine lv_aload_n hx hb dX8_draw_61 rfl (lv_at hl 0 rfl) ?_
        refine lv_aload hx hb dX8_draw_62 (lv_at hl 2 rfl) ?_
        refine lv_iload hx hb dX8_draw_64 (lv_at hl 3 rfl) ?_
        obtain ⟨v_17, hv_17, hF⟩ := bd_s hF
        refine ro_ie (va_runV (As := [.ref f0, .int a5]) (rest := []) ⟨hx, hb, hml, hown, hts⟩ (kX8_refusalOf l G h0 d0 dx dy dz f0 ac qs qb m0 bc_ mds mDX mDY mDZ la si CE a5 v_17 hv_17) (cwV 2 hts gX8_draw_X8_refusalOf rfl rfl rfl (by decide +kernel) ⟨Nat.le_of_ble_eq_true rfl, Nat.le_of_ble_eq_true rfl⟩) (pvR (q0 := 0) 8 hK (hP.sub (ws' := (wXRD G h0 d0 dx dy dz f0 ac qs qb m0 bc_ mds mDX mDY mDZ la si CE)) [0, 1, 2, 3, 4, 6, 7] rfl) rfl rfl) rfl rfl hl.1 rfl (lv_room (Nat.le_of_ble_eq_true rfl)) dX8_draw_66 ⟨Nat.le_of_ble_eq_true rfl, Nat.le_of_ble_eq_true rfl⟩) ?_
        refine lv_istore (lv' := [(6, .int v_17), (0, .ref h0), (3, .int a3), (4, .ref f0), (5, .int a5)]) hx hb dX8_draw_69 hl (by decide) rfl (fun ls hl => ?_)
        refine lv_iload hx hb dX8_draw_71 (lv_at hl 0 rfl) ?_
        refine lv_if_eq (tgt := 79) hx hb dX8_draw_73 (by decide) (fun c_18 => ?_) (fun c_18 => ?_)
        · replace hF := it_p c_18 hF
          refine lv_iinc (v := a5 + 1) (lv' := [(5, .int (a5 + 1)), (6, .int v_17), (0, .ref h0), (3, .int a3), (4, .ref f0)]) hx hb dX8_draw_79 hl (k := 4) rfl rfl (by decide) rfl (fun ls hl => ?_)
          refine lv_goto (tgt := 55) hx hb dX8_draw_82 (by decide) ?_
          exact ih a3 (a5 + 1) mds mDX mDY mDZ _ _ _ hF hP hD hS (lv_sub hl [2, 3, 4, 0] rfl)
        · replace hF := it_n c_18 hF
          refine lv_iload hx hb dX8_draw_76 (lv_at hl 0 rfl) ?_
          exact W.iret (v := v_17) hx hb hr  (fun t ht hW => ⟨⟨v_17, (mds, mDX, mDY, mDZ), rfl, pr_e hF, qW_mk ht hP hK hW hD⟩, hS.F ht⟩) hS.2.2 dX8_draw_78
  unfold fX8_draw at hF
  refine lv_iload_n hx hb dX8_draw_0 rfl (lv_at hl 1 rfl) ?_
  obtain ⟨v_1, hv_1, hF⟩ := bd_s hF
  refine ro_ze (va_runS (As := [.int p1]) (rest := []) ⟨hx, hb, hml, hown, hts⟩ (kX8_isSheaf l G p1 v_1 hv_1) (va_cwS 1 hts gX8_draw_X8_isSheaf rfl rfl rfl (by decide +kernel) ⟨Nat.le_of_ble_eq_true rfl, Nat.le_of_ble_eq_true rfl⟩) (psR hK (hP.sub (ws' := ([] : va_W)) [] rfl)) rfl rfl hl.1 rfl (lv_room (Nat.le_of_ble_eq_true rfl)) dX8_draw_1 ⟨Nat.le_of_ble_eq_true rfl, Nat.le_of_ble_eq_true rfl⟩) (fun hb_2 => ?_)
  refine lv_if_eq (tgt := 18) hx hb dX8_draw_4 (by decide) (fun c_3 => ?_) (fun c_3 => ?_)
  · replace hF := it_p c_3 hF
    refine lv_iconst (v := (-1)) hx hb dX8_draw_18 (by decide) ?_
    exact W.iret (v := (-1)) hx hb hr  (fun t ht hW => ⟨⟨(-1), (ds, DX, DY, DZ), rfl, pr_e hF, qW_mk ht hP hK hW hD⟩, hS.F ht⟩) hS.2.2 dX8_draw_19
  · replace hF := it_n c_3 hF
    refine lv_iload_n hx hb dX8_draw_7 rfl (lv_at hl 2 rfl) ?_
    obtain ⟨v_4, hv_4, hF⟩ := bd_s hF
    refine ro_ze (va_runS (As := [.int p2]) (rest := []) ⟨hx, hb, hml, hown, hts⟩ (kX8_isLane l G p2 v_4 hv_4) (va_cwS 1 hts gX8_draw_X8_isLane rfl rfl rfl (by decide +kernel) ⟨Nat.le_of_ble_eq_true rfl, Nat.le_of_ble_eq_true rfl⟩) (psR hK (hP.sub (ws' := ([] : va_W)) [] rfl)) rfl rfl hl.1 rfl (lv_room (Nat.le_of_ble_eq_true rfl)) dX8_draw_8 ⟨Nat.le_of_ble_eq_true rfl, Nat.le_of_ble_eq_true rfl⟩) (fun hb_5 => ?_)
    refine lv_if_eq (tgt := 18) hx hb dX8_draw_11 (by decide) (fun c_6 => ?_) (fun c_6 => ?_)
    · replace hF := it_p c_6 hF
      refine lv_iconst (v := (-1)) hx hb dX8_draw_18 (by decide) ?_
      exact W.iret (v := (-1)) hx hb hr  (fun t ht hW => ⟨⟨(-1), (ds, DX, DY, DZ), rfl, pr_e hF, qW_mk ht hP hK hW hD⟩, hS.F ht⟩) hS.2.2 dX8_draw_19
    · replace hF := it_n c_6 hF
      refine lv_iload_n hx hb dX8_draw_14 rfl (lv_at hl 3 rfl) ?_
      refine lv_if_ge (tgt := 20) hx hb dX8_draw_15 (by decide) (fun c_7 => ?_) (fun c_7 => ?_)
      · replace hF := it_p c_7 hF
        refine lv_aload_n hx hb dX8_draw_20 rfl (lv_at hl 0 rfl) ?_
        refine va_get (ci := 8) (v := .ref qs) (C := RX8) (T := TX8) (N := 5) hx hb hts hin8 hown hK hP 0 rfl rfl 1 (by decide) hfl20 (fun _ h9 => h9) rfl dX8_draw_21 ?_
        refine lv_iload_n hx hb dX8_draw_24 rfl (lv_at hl 1 rfl) ?_
        obtain ⟨hi_8, hF⟩ := gd_in_s hF
        refine va_aldq hx hb hK hP 5 3 rfl rfl hi_8 dX8_draw_25 ?_
        rw [hq]
        refine lv_astore (lv' := [(4, .ref f0), (0, .ref h0), (1, .int p1), (2, .int p2), (3, .int p3)]) hx hb dX8_draw_26 hl (by decide) rfl (fun ls hl => ?_)
        refine lv_aload hx hb dX8_draw_28 (lv_at hl 0 rfl) ?_
        refine va_get (ci := 5) (v := .int la) (C := RX5) (T := TX5) (N := 3) hx hb hts hin5 hown hK hP 6 rfl rfl 1 (by decide) hfl61 (fun _ h9 => h9) rfl dX8_draw_30 ?_
        refine lv_iconst (v := (-1)) hx hb dX8_draw_33 (by decide) ?_
        refine lv_icmp_ne (tgt := 40) hx hb dX8_draw_34 (by decide) (fun c_9 => ?_) (fun c_9 => ?_)
        · replace hF := it_n c_9 hF
          refine lv_aload hx hb dX8_draw_40 (lv_at hl 0 rfl) ?_
          refine va_get (ci := 5) (v := .int la) (C := RX5) (T := TX5) (N := 3) hx hb hts hin5 hown hK hP 6 rfl rfl 1 (by decide) hfl61 (fun _ h9 => h9) rfl dX8_draw_42 ?_
          refine lv_iload_n hx hb dX8_draw_45 rfl (lv_at hl 3 rfl) ?_
          refine lv_icmp_eq (tgt := 52) hx hb dX8_draw_46 (by decide) (fun c_10 => ?_) (fun c_10 => ?_)
          · replace hF := it_p c_10 hF
            refine lv_iconst (v := 0) hx hb dX8_draw_52 (by decide) ?_
            refine lv_istore (lv' := [(5, .int 0), (4, .ref f0), (0, .ref h0), (1, .int p1), (2, .int p2), (3, .int p3)]) hx hb dX8_draw_53 hl (by decide) rfl (fun ls hl => ?_)
            exact hL55 FU p3 0 ds DX DY DZ _ _ _ hF hP hD hS (lv_sub hl [2, 5, 1, 0] rfl)
          · replace hF := it_n c_10 hF
            refine lv_bipush (v := (-13)) hx hb dX8_draw_49 (by decide) ?_
            exact W.iret (v := (-13)) hx hb hr  (fun t ht hW => ⟨⟨(-13), (ds, DX, DY, DZ), rfl, pr_e hF, qW_mk ht hP hK hW hD⟩, hS.F ht⟩) hS.2.2 dX8_draw_51
        · replace hF := it_p c_9 hF
          refine lv_bipush (v := (-11)) hx hb dX8_draw_37 (by decide) ?_
          exact W.iret (v := (-11)) hx hb hr  (fun t ht hW => ⟨⟨(-11), (ds, DX, DY, DZ), rfl, pr_e hF, qW_mk ht hP hK hW hD⟩, hS.F ht⟩) hS.2.2 dX8_draw_39
      · replace hF := it_n c_7 hF
        refine lv_iconst (v := (-1)) hx hb dX8_draw_18 (by decide) ?_
        exact W.iret (v := (-1)) hx hb hr  (fun t ht hW => ⟨⟨(-1), (ds, DX, DY, DZ), rfl, pr_e hF, qW_mk ht hP hK hW hD⟩, hS.F ht⟩) hS.2.2 dX8_draw_19
def fX8_all (bc_ : Int32) (ds : Int32) (la : Int32) (si : Int32) (p1 : Int32) : Option (Int32) :=
  (if p1 = 0 then (some bc_) else (if p1 = 1 then (some ds) else (if p1 = 2 then (if la = (-1) then (some (-4)) else (some si)) else (some (-1)))))
abbrev rX8_all : Room := { frames := 0, cells := 0, slots := 0, locals := 0 }
set_option maxHeartbeats 40000000 in
set_option maxRecDepth 100000 in
theorem kX8_all (l : Launch) (G : GT) (h0 d0 dx dy dz qs f0 ac qb m0 : Nat) (bc_ : Int32) (ds : Int32) (DX : Nat → Int32) (DY : Nat → Int32) (DZ : Nat → Int32) (RS : Nat → Option Nat) (la : Int32) (si : Int32) (CE : Nat → Int64) (p1 : Int32) (hq : RS (0 : Int32).toNatClampNeg = some f0) (res : Int32) (hF : fX8_all bc_ ds la si p1 = some res) : Met l yX8_all wsX8_all rX8_all (va_Pc [.ref h0, .int p1] (pR G (wXSD G h0 d0 dx dy dz qs f0 ac qb m0 bc_ ds DX DY DZ RS la si CE))) (vp_Si (fun r => r = res)) 0 0 (fun _ => False) := by
  refine Met.ofW (cc := cX8_all) (maxL := 2) (ret := (some .int)) (by decide) rfl ?_
  intro p e s m args below meth c s₁ B hml hv
  obtain ⟨rfl, hP, hK⟩ := hv
  have hx := B.exec
  have hb := B.bytes
  have hr := B.returns
  have hts := atoms_spec (ws := wsX8_all) B.pre
  have hown : s.vm.findClass RX8 = some m.cls := findClass_of_methodNamed B.named
  have hlocks := B.notSynchronized
  have hin8 : ∀ w ∈ u_ws RX8 TX8 5, w ∈ wsX8_all := by decide +kernel
  have hfl76 := hts (.fieldLink RX8 76 "SwellBodies" "bodyCount" "I") (by decide +kernel)
  have hfl14 := hts (.fieldLink RX8 14 "SwellBodies" "draft" "LSwellBodies$Points;") (by decide +kernel)
  have hin4 : ∀ w ∈ u_ws RX4 TX4 4, w ∈ wsX8_all := by decide +kernel
  have hfl42 := hts (.fieldLink RX8 42 "SwellBodies$Points" "size" "I") (by decide +kernel)
  have hfl20 := hts (.fieldLink RX8 20 "SwellBodies" "sheaves" "[LSwellBodies$Sheaf;") (by decide +kernel)
  have hin5 : ∀ w ∈ u_ws RX5 TX5 3, w ∈ wsX8_all := by decide +kernel
  have hfl61 := hts (.fieldLink RX8 61 "SwellBodies$Sheaf" "lane" "I") (by decide +kernel)
  have hfl64 := hts (.fieldLink RX8 64 "SwellBodies$Sheaf" "size" "I") (by decide +kernel)
  have hl := lv_entry ([.ref h0, .int p1]) (n := 2) (Nat.le_of_ble_eq_true rfl)
  rw [lg_entry_eq]
  generalize (lg_sl ([.ref h0, .int p1]) ++ List.replicate (2 - (lg_sl ([.ref h0, .int p1])).length) Slot.unset).toArray = ls at hl ⊢
  have hl : lv_has ls 2 [(0, .ref h0), (1, .int p1)] := hl
  unfold fX8_all at hF
  refine lv_iload_n hx hb dX8_all_0 rfl (lv_at hl 1 rfl) ?_
  by_cases c_1 : p1 = 0
  · replace hF := it_p c_1 hF
    refine lv_tableIn (off := 27) (tgt := 28) hx hb dX8_all_1 (by rw [c_1]; decide) (by rw [c_1]; decide) (by rw [c_1]; decide) (by decide) ?_
    refine lv_aload_n hx hb dX8_all_28 rfl (lv_at hl 0 rfl) ?_
    refine va_get (ci := 8) (v := .int bc_) (C := RX8) (T := TX8) (N := 5) hx hb hts hin8 hown hK hP 0 rfl rfl 4 (by decide) hfl76 (fun _ h9 => h9) rfl dX8_all_29 ?_
    exact W.iret (v := bc_) hx hb hr  (fun t ht hW => ⟨bc_, rfl, (so_e hF), ht⟩) (fun q h => absurd h List.not_mem_nil) dX8_all_32
  · replace hF := it_n c_1 hF
    by_cases c_2 : p1 = 1
    · replace hF := it_p c_2 hF
      refine lv_tableIn (off := 32) (tgt := 33) hx hb dX8_all_1 (by rw [c_2]; decide) (by rw [c_2]; decide) (by rw [c_2]; decide) (by decide) ?_
      refine lv_aload_n hx hb dX8_all_33 rfl (lv_at hl 0 rfl) ?_
      refine va_get (ci := 8) (v := .ref d0) (C := RX8) (T := TX8) (N := 5) hx hb hts hin8 hown hK hP 0 rfl rfl 0 (by decide) hfl14 (fun _ h9 => h9) rfl dX8_all_34 ?_
      refine va_get (ci := 4) (v := .int ds) (C := RX4) (T := TX4) (N := 4) hx hb hts hin4 hown hK hP 1 rfl rfl 3 (by decide) hfl42 (fun _ h9 => h9) rfl dX8_all_37 ?_
      exact W.iret (v := ds) hx hb hr  (fun t ht hW => ⟨ds, rfl, (so_e hF), ht⟩) (fun q h => absurd h List.not_mem_nil) dX8_all_40
    · replace hF := it_n c_2 hF
      by_cases c_3 : p1 = 2
      · replace hF := it_p c_3 hF
        refine lv_tableIn (off := 40) (tgt := 41) hx hb dX8_all_1 (by rw [c_3]; decide) (by rw [c_3]; decide) (by rw [c_3]; decide) (by decide) ?_
        refine lv_aload_n hx hb dX8_all_41 rfl (lv_at hl 0 rfl) ?_
        refine va_get (ci := 8) (v := .ref qs) (C := RX8) (T := TX8) (N := 5) hx hb hts hin8 hown hK hP 0 rfl rfl 1 (by decide) hfl20 (fun _ h9 => h9) rfl dX8_all_42 ?_
        refine lv_iconst (v := 0) hx hb dX8_all_45 (by decide) ?_
        refine va_aldq hx hb hK hP 5 3 rfl rfl (by unfold vp_in; decide) dX8_all_46 ?_
        rw [hq]
        refine va_get (ci := 5) (v := .int la) (C := RX5) (T := TX5) (N := 3) hx hb hts hin5 hown hK hP 6 rfl rfl 1 (by decide) hfl61 (fun _ h9 => h9) rfl dX8_all_47 ?_
        refine lv_iconst (v := (-1)) hx hb dX8_all_50 (by decide) ?_
        refine lv_icmp_ne (tgt := 59) hx hb dX8_all_51 (by decide) (fun c_4 => ?_) (fun c_4 => ?_)
        · replace hF := it_n c_4 hF
          refine lv_aload_n hx hb dX8_all_59 rfl (lv_at hl 0 rfl) ?_
          refine va_get (ci := 8) (v := .ref qs) (C := RX8) (T := TX8) (N := 5) hx hb hts hin8 hown hK hP 0 rfl rfl 1 (by decide) hfl20 (fun _ h9 => h9) rfl dX8_all_60 ?_
          refine lv_iconst (v := 0) hx hb dX8_all_63 (by decide) ?_
          refine va_aldq hx hb hK hP 5 3 rfl rfl (by unfold vp_in; decide) dX8_all_64 ?_
          rw [hq]
          refine va_get (ci := 5) (v := .int si) (C := RX5) (T := TX5) (N := 3) hx hb hts hin5 hown hK hP 6 rfl rfl 2 (by decide) hfl64 (fun _ h9 => h9) rfl dX8_all_65 ?_
          exact W.iret (v := si) hx hb hr  (fun t ht hW => ⟨si, rfl, (so_e hF), ht⟩) (fun q h => absurd h List.not_mem_nil) dX8_all_68
        · replace hF := it_p c_4 hF
          refine lv_bipush (v := (-4)) hx hb dX8_all_54 (by decide) ?_
          refine lv_goto (tgt := 68) hx hb dX8_all_56 (by decide) ?_
          exact W.iret (v := (-4)) hx hb hr  (fun t ht hW => ⟨(-4), rfl, (so_e hF), ht⟩) (fun q h => absurd h List.not_mem_nil) dX8_all_68
      · replace hF := it_n c_3 hF
        refine lv_tableOut (tgt := 69) hx hb dX8_all_1 (by have e0 : p1.toInt ≠ 0 := ne_t c_1; have e1 : p1.toInt ≠ 1 := ne_t c_2; have e2 : p1.toInt ≠ 2 := ne_t c_3; omega) (by decide) ?_
        refine lv_iconst (v := (-1)) hx hb dX8_all_69 (by decide) ?_
        exact W.iret (v := (-1)) hx hb hr  (fun t ht hW => ⟨(-1), rfl, (so_e hF), ht⟩) (fun q h => absurd h List.not_mem_nil) dX8_all_70
def fX8_find_N (bc_ : Int32) (p1 : Int32) : Option (Unit) :=
  (if p1 < 0 then (some ()) else (if bc_ ≤ p1 then (some ()) else none))
abbrev rX8_find_N : Room := { frames := 0, cells := 0, slots := 0, locals := 0 }
set_option maxHeartbeats 40000000 in
set_option maxRecDepth 100000 in
theorem kX8_find_N (l : Launch) (G : GT) (h0 qb d0 qs m0 : Nat) (bc_ : Int32) (RB : Nat → Option Nat) (p1 : Int32) (res : Unit) (hF : fX8_find_N bc_ p1 = some res) : Met l yX8_find wsX8_find rX8_find_N (va_Pc [.ref h0, .int p1] (pR G (wXBn G h0 qb d0 qs m0 bc_ RB))) (va_Sq (fun r => r = none)) 0 0 (fun _ => False) := by
  refine Met.ofW (cc := cX8_find) (maxL := 2) (ret := (some (.object "SwellBodies$Body"))) (by decide) rfl ?_
  intro p e s m args below meth c s₁ B hml hv
  obtain ⟨rfl, hP, hK⟩ := hv
  have hx := B.exec
  have hb := B.bytes
  have hr := B.returns
  have hts := atoms_spec (ws := wsX8_find) B.pre
  have hown : s.vm.findClass RX8 = some m.cls := findClass_of_methodNamed B.named
  have hlocks := B.notSynchronized
  have hin8 : ∀ w ∈ u_ws RX8 TX8 5, w ∈ wsX8_find := by decide +kernel
  have hfl76 := hts (.fieldLink RX8 76 "SwellBodies" "bodyCount" "I") (by decide +kernel)
  have hfl26 := hts (.fieldLink RX8 26 "SwellBodies" "bodies" "[LSwellBodies$Body;") (by decide +kernel)
  have hl := lv_entry ([.ref h0, .int p1]) (n := 2) (Nat.le_of_ble_eq_true rfl)
  rw [lg_entry_eq]
  generalize (lg_sl ([.ref h0, .int p1]) ++ List.replicate (2 - (lg_sl ([.ref h0, .int p1])).length) Slot.unset).toArray = ls at hl ⊢
  have hl : lv_has ls 2 [(0, .ref h0), (1, .int p1)] := hl
  unfold fX8_find_N at hF
  refine lv_iload_n hx hb dX8_find_0 rfl (lv_at hl 1 rfl) ?_
  refine lv_if_lt (tgt := 21) hx hb dX8_find_1 (by decide) (fun c_1 => ?_) (fun c_1 => ?_)
  · replace hF := it_p c_1 hF
    refine lv_null hx hb dX8_find_21 ?_
    exact W.aret (v := .null) hx hb hr (Or.inl ⟨_, rfl⟩) (Or.inl rfl) (fun t ht hW => ⟨none, rfl, rfl, ht⟩) (fun q h => absurd h List.not_mem_nil) dX8_find_22
  · replace hF := it_n c_1 hF
    refine lv_iload_n hx hb dX8_find_4 rfl (lv_at hl 1 rfl) ?_
    refine lv_aload_n hx hb dX8_find_5 rfl (lv_at hl 0 rfl) ?_
    refine va_get (ci := 8) (v := .int bc_) (C := RX8) (T := TX8) (N := 5) hx hb hts hin8 hown hK hP 0 rfl rfl 4 (by decide) hfl76 (fun _ h9 => h9) rfl dX8_find_6 ?_
    refine lv_icmp_ge (tgt := 21) hx hb dX8_find_9 (by decide) (fun c_2 => ?_) (fun c_2 => ?_)
    · replace hF := it_p c_2 hF
      refine lv_null hx hb dX8_find_21 ?_
      exact W.aret (v := .null) hx hb hr (Or.inl ⟨_, rfl⟩) (Or.inl rfl) (fun t ht hW => ⟨none, rfl, rfl, ht⟩) (fun q h => absurd h List.not_mem_nil) dX8_find_22
    · replace hF := it_n c_2 hF
      refine lv_aload_n hx hb dX8_find_12 rfl (lv_at hl 0 rfl) ?_
      refine va_get (ci := 8) (v := .ref qb) (C := RX8) (T := TX8) (N := 5) hx hb hts hin8 hown hK hP 0 rfl rfl 2 (by decide) hfl26 (fun _ h9 => h9) rfl dX8_find_13 ?_
      refine lv_iload_n hx hb dX8_find_16 rfl (lv_at hl 1 rfl) ?_
      cases hF
def fX8_find_F (bc_ : Int32) (p1 : Int32) : Option (Unit) :=
  (if p1 < 0 then none else (if bc_ ≤ p1 then none else (gd_in p1 8 (some ()))))
abbrev rX8_find_F : Room := { frames := 0, cells := 0, slots := 0, locals := 0 }
set_option maxHeartbeats 40000000 in
set_option maxRecDepth 100000 in
theorem kX8_find_F (l : Launch) (G : GT) (h0 qb d0 qs m0 f0 : Nat) (bc_ : Int32) (RB : Nat → Option Nat) (p1 : Int32) (hq : RB p1.toNatClampNeg = some f0) (res : Unit) (hF : fX8_find_F bc_ p1 = some res) : Met l yX8_find wsX8_find rX8_find_F (va_Pc [.ref h0, .int p1] (pR G (wXB G h0 qb d0 qs m0 m0 bc_ RB))) (va_Sq (fun r => r = some f0)) 0 0 (fun _ => False) := by
  refine Met.ofW (cc := cX8_find) (maxL := 2) (ret := (some (.object "SwellBodies$Body"))) (by decide) rfl ?_
  intro p e s m args below meth c s₁ B hml hv
  obtain ⟨rfl, hP, hK⟩ := hv
  have hx := B.exec
  have hb := B.bytes
  have hr := B.returns
  have hts := atoms_spec (ws := wsX8_find) B.pre
  have hown : s.vm.findClass RX8 = some m.cls := findClass_of_methodNamed B.named
  have hlocks := B.notSynchronized
  have hin8 : ∀ w ∈ u_ws RX8 TX8 5, w ∈ wsX8_find := by decide +kernel
  have hfl76 := hts (.fieldLink RX8 76 "SwellBodies" "bodyCount" "I") (by decide +kernel)
  have hfl26 := hts (.fieldLink RX8 26 "SwellBodies" "bodies" "[LSwellBodies$Body;") (by decide +kernel)
  have hl := lv_entry ([.ref h0, .int p1]) (n := 2) (Nat.le_of_ble_eq_true rfl)
  rw [lg_entry_eq]
  generalize (lg_sl ([.ref h0, .int p1]) ++ List.replicate (2 - (lg_sl ([.ref h0, .int p1])).length) Slot.unset).toArray = ls at hl ⊢
  have hl : lv_has ls 2 [(0, .ref h0), (1, .int p1)] := hl
  unfold fX8_find_F at hF
  refine lv_iload_n hx hb dX8_find_0 rfl (lv_at hl 1 rfl) ?_
  refine lv_if_lt (tgt := 21) hx hb dX8_find_1 (by decide) (fun c_1 => ?_) (fun c_1 => ?_)
  · replace hF := it_p c_1 hF
    refine lv_null hx hb dX8_find_21 ?_
    cases hF
  · replace hF := it_n c_1 hF
    refine lv_iload_n hx hb dX8_find_4 rfl (lv_at hl 1 rfl) ?_
    refine lv_aload_n hx hb dX8_find_5 rfl (lv_at hl 0 rfl) ?_
    refine va_get (ci := 8) (v := .int bc_) (C := RX8) (T := TX8) (N := 5) hx hb hts hin8 hown hK hP 0 rfl rfl 4 (by decide) hfl76 (fun _ h9 => h9) rfl dX8_find_6 ?_
    refine lv_icmp_ge (tgt := 21) hx hb dX8_find_9 (by decide) (fun c_2 => ?_) (fun c_2 => ?_)
    · replace hF := it_p c_2 hF
      refine lv_null hx hb dX8_find_21 ?_
      cases hF
    · replace hF := it_n c_2 hF
      refine lv_aload_n hx hb dX8_find_12 rfl (lv_at hl 0 rfl) ?_
      refine va_get (ci := 8) (v := .ref qb) (C := RX8) (T := TX8) (N := 5) hx hb hts hin8 hown hK hP 0 rfl rfl 2 (by decide) hfl26 (fun _ h9 => h9) rfl dX8_find_13 ?_
      refine lv_iload_n hx hb dX8_find_16 rfl (lv_at hl 1 rfl) ?_
      obtain ⟨hi_3, hF⟩ := gd_in_s hF
      refine va_aldq hx hb hK hP 1 2 rfl rfl hi_3 dX8_find_17 ?_
      rw [hq]
      refine lv_goto (tgt := 22) hx hb dX8_find_18 (by decide) ?_
      exact W.aret (v := .ref f0) hx hb hr (Or.inl ⟨_, rfl⟩) (Or.inr ⟨_, rfl⟩) (fun t ht hW => ⟨(some f0), rfl, rfl, ht⟩) (fun q h => absurd h List.not_mem_nil) dX8_find_22
