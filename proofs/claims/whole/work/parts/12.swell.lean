abbrev wSwO (G : GT) (h0 s0 b0 af : Nat) (fac : Int32) (lx : Int32) (gx : Int32) (ly : Int32) (gy : Int32) (lz : Int32) (gz : Int32) (lo : Int32) (hi : Int32) : va_W := [(h0, .inr (7, [.ref s0, .ref b0, .int fac, .int lx, .int gx, .int ly, .int gy, .int lz, .int gz, .ref af, .int lo, .int hi]))]
abbrev wSwT (G : GT) (h0 af s0 b0 : Nat) (nf : Nat) (fac : Int32) (lx : Int32) (gx : Int32) (ly : Int32) (gy : Int32) (lz : Int32) (gz : Int32) (lo : Int32) (hi : Int32) (BE : Nat → Int32) : va_W := [(h0, .inr (7, [.ref s0, .ref b0, .int fac, .int lx, .int gx, .int ly, .int gy, .int lz, .int gz, .ref af, .int lo, .int hi])), (af, .inl (gI G, nf, .inl BE))]
abbrev wSw (G : GT) (h0 af s0 aa ab ac ae b0 ba bb bc be : Nat) (nf ns nb : Nat) (fac : Int32) (lx : Int32) (gx : Int32) (ly : Int32) (gy : Int32) (lz : Int32) (gz : Int32) (lo : Int32) (hi : Int32) (BE : Nat → Int32) (ss : Int32) (SA : Nat → Int32) (SB : Nat → Int32) (SC : Nat → Int32) (SE : Nat → Int32) (bs : Int32) (BA : Nat → Int32) (BB : Nat → Int32) (BC : Nat → Int32) (BD : Nat → Int32) : va_W := [(h0, .inr (7, [.ref s0, .ref b0, .int fac, .int lx, .int gx, .int ly, .int gy, .int lz, .int gz, .ref af, .int lo, .int hi])), (af, .inl (gI G, nf, .inl BE)), (s0, .inr (1, [.ref aa, .ref ab, .ref ac, .ref ae, .int ss])), (aa, .inl (gI G, ns, .inl SA)), (ab, .inl (gI G, ns, .inl SB)), (ac, .inl (gI G, ns, .inl SC)), (ae, .inl (gI G, ns, .inl SE)), (b0, .inr (1, [.ref ba, .ref bb, .ref bc, .ref be, .int bs])), (ba, .inl (gI G, nb, .inl BA)), (bb, .inl (gI G, nb, .inl BB)), (bc, .inl (gI G, nb, .inl BC)), (be, .inl (gI G, nb, .inl BD))]
abbrev wSwP (G : GT) (h0 af s0 aa ab ac ae b0 ba bb bc be g0 bX bY bZ : Nat) (nf ns nb n2 : Nat) (fac : Int32) (lx : Int32) (gx : Int32) (ly : Int32) (gy : Int32) (lz : Int32) (gz : Int32) (lo : Int32) (hi : Int32) (BE : Nat → Int32) (ss : Int32) (SA : Nat → Int32) (SB : Nat → Int32) (SC : Nat → Int32) (SE : Nat → Int32) (bs : Int32) (BA : Nat → Int32) (BB : Nat → Int32) (BC : Nat → Int32) (BD : Nat → Int32) (sz1 : Int32) (U : Nat → Int32) (V : Nat → Int32) (T : Nat → Int32) : va_W := [(h0, .inr (7, [.ref s0, .ref b0, .int fac, .int lx, .int gx, .int ly, .int gy, .int lz, .int gz, .ref af, .int lo, .int hi])), (af, .inl (gI G, nf, .inl BE)), (s0, .inr (1, [.ref aa, .ref ab, .ref ac, .ref ae, .int ss])), (aa, .inl (gI G, ns, .inl SA)), (ab, .inl (gI G, ns, .inl SB)), (ac, .inl (gI G, ns, .inl SC)), (ae, .inl (gI G, ns, .inl SE)), (b0, .inr (1, [.ref ba, .ref bb, .ref bc, .ref be, .int bs])), (ba, .inl (gI G, nb, .inl BA)), (bb, .inl (gI G, nb, .inl BB)), (bc, .inl (gI G, nb, .inl BC)), (be, .inl (gI G, nb, .inl BD)), (g0, .inr (4, [.ref bX, .ref bY, .ref bZ, .int sz1])), (bX, .inl (gI G, n2, .inl U)), (bY, .inl (gI G, n2, .inl V)), (bZ, .inl (gI G, n2, .inl T))]
def fX7_bound (lo : Int32) (hi : Int32) (p1 : Int32) (p2 : Int32) : Option (Int32 × Int32) :=
  (if p1 ≤ 0 then (if 0 ≤ p1 then (if 0 ≤ p2 then (some (lo, hi)) else (some (lo, lo - 1))) else (gd_nz (-p1) (some ((if lo < -(fdv p2 (-p1)) then -(fdv p2 (-p1)) else lo), hi)))) else (gd_nz p1 (some (lo, (if fdv p2 p1 < hi then fdv p2 p1 else hi)))))
abbrev rX7_bound : Room := { frames := 1, cells := 0, slots := 0, locals := 22 }
set_option maxHeartbeats 40000000 in
set_option maxRecDepth 100000 in
theorem kX7_bound (l : Launch) (G : GT) (h0 s0 b0 af : Nat) (sz : Nat) (fac : Int32) (lx : Int32) (gx : Int32) (ly : Int32) (gy : Int32) (lz : Int32) (gz : Int32) (lo : Int32) (hi : Int32) (p1 : Int32) (p2 : Int32) (res : Int32 × Int32) (hF : fX7_bound lo hi p1 p2 = some res) : Met l yX7_bound wsX7_bound rX7_bound (va_Pc [.ref h0, .int p1, .int p2] (pW G sz (wSwO G h0 s0 b0 af fac lx gx ly gy lz gz lo hi))) (va_Qv (fun (u : Int32 × Int32) => u = res) (fun u t => qW G (va_A (wSwO G h0 s0 b0 af fac lx gx ly gy lz gz lo hi) sz) (wSwO G h0 s0 b0 af fac lx gx ly gy lz gz u.1 u.2) t) (va_A (wSwO G h0 s0 b0 af fac lx gx ly gy lz gz lo hi) sz)) 0 0 (va_A (wSwO G h0 s0 b0 af fac lx gx ly gy lz gz lo hi) sz) := by
  refine Met.ofW (cc := cX7_bound) (maxL := 3) (ret := none) (by decide) rfl ?_
  intro p e s m args below meth c s₁ B hml hv
  obtain ⟨rfl, hsz, hP, hK, hD0⟩ := hv
  have hx := B.exec
  have hb := B.bytes
  have hr := B.returns
  have hts := atoms_spec (ws := wsX7_bound) B.pre
  have hown : s.vm.findClass RX7 = some m.cls := findClass_of_methodNamed B.named
  have hlocks := B.notSynchronized
  subst hsz
  have hD := hD0.self (sz := s.heap.size)
  generalize hAe : va_A (wSwO G h0 s0 b0 af fac lx gx ly gy lz gz lo hi) s.heap.size = A at hD ⊢
  have hA : ∀ q : Nat, s.heap.size ≤ q → A q := fun q h => by rw [← hAe]; exact Or.inr h
  have hS : va_S A s.heap s.heap [] := va_S.rf
  have hin7 : ∀ w ∈ u_ws RX7 TX7 12, w ∈ wsX7_bound := by decide +kernel
  have hfl64 := hts (.fieldLink RX7 64 "SwellBodies$Swelling" "low" "I") (by decide +kernel)
  have hfl61 := hts (.fieldLink RX7 61 "SwellBodies$Swelling" "high" "I") (by decide +kernel)
  have hm87 := hts (.methodLink RX7 87 yFD) (by decide +kernel)
  have hmsf := hts (.static yFD) (by decide +kernel)
  have hmif := hts (.initialized RJ9) (by decide +kernel)
  have hmcf := hts (.code yFD cJ9_floorDiv_7cf53 3 (some .int)) (by decide +kernel)
  have hm40 := hts (.methodLink RX7 40 Lib.Math.max.name) (by decide +kernel)
  have hmsmax := hts (.static Lib.Math.max.name) (by decide +kernel)
  have hmi := hts (.initialized "java/lang/Math") (by decide +kernel)
  have hmcmax := hts (.code Lib.Math.max.name Lib.Math.max.code 2 (some .int)) (by decide +kernel)
  have hm90 := hts (.methodLink RX7 90 Lib.Math.min.name) (by decide +kernel)
  have hmsmin := hts (.static Lib.Math.min.name) (by decide +kernel)
  have hmcmin := hts (.code Lib.Math.min.name Lib.Math.min.code 2 (some .int)) (by decide +kernel)
  have hl := lv_entry ([.ref h0, .int p1, .int p2]) (n := 3) (Nat.le_of_ble_eq_true rfl)
  rw [lg_entry_eq]
  generalize (lg_sl ([.ref h0, .int p1, .int p2]) ++ List.replicate (3 - (lg_sl ([.ref h0, .int p1, .int p2])).length) Slot.unset).toArray = ls at hl ⊢
  have hl : lv_has ls 3 [(0, .ref h0), (1, .int p1), (2, .int p2)] := hl
  unfold fX7_bound at hF
  refine lv_iload_n hx hb dX7_bound_0 rfl (lv_at hl 1 rfl) ?_
  refine lv_if_le (tgt := 23) hx hb dX7_bound_1 (by decide) (fun c_1 => ?_) (fun c_1 => ?_)
  · replace hF := it_p c_1 hF
    refine lv_iload_n hx hb dX7_bound_23 rfl (lv_at hl 1 rfl) ?_
    refine lv_if_ge (tgt := 48) hx hb dX7_bound_24 (by decide) (fun c_2 => ?_) (fun c_2 => ?_)
    · replace hF := it_p c_2 hF
      refine lv_iload_n hx hb dX7_bound_48 rfl (lv_at hl 2 rfl) ?_
      refine lv_if_ge (tgt := 62) hx hb dX7_bound_49 (by decide) (fun c_3 => ?_) (fun c_3 => ?_)
      · replace hF := it_p c_3 hF
        exact W.vret hx hb hr (fun t ht hW => ⟨⟨(lo, hi), rfl, so_e hF, qW_mk ht hP hK hW hD⟩, hS.F ht⟩) hS.2.2 dX7_bound_62
      · replace hF := it_n c_3 hF
        refine lv_aload_n hx hb dX7_bound_52 rfl (lv_at hl 0 rfl) ?_
        refine lv_aload_n hx hb dX7_bound_53 rfl (lv_at hl 0 rfl) ?_
        refine va_get (ci := 7) (v := .int lo) (C := RX7) (T := TX7) (N := 12) hx hb hts hin7 hown hK hP 0 rfl rfl 10 (by decide) hfl64 (fun _ h9 => h9) rfl dX7_bound_54 ?_
        refine lv_iconst (v := 1) hx hb dX7_bound_57 (by decide) ?_
        refine lv_isub hx hb dX7_bound_58 ?_
        refine va_put (ci := 7) (v := .int (lo - 1)) (ty := .int) (C := RX7) (T := TX7) (N := 12) hx hb hts hin7 tyX7 tyX7_ok nmX7 hown hK hP hD hS 0 rfl rfl 11 (by decide) hfl61 (fun _ h9 => h9) rfl (by decide +kernel) rfl rfl (Nat.le_of_ble_eq_true rfl) dX7_bound_59 (fun H locs hP hD hS => ?_)
        have hP : va_P (gD G) vwCl (wSwO G h0 s0 b0 af fac lx gx ly gy lz gz lo (lo - 1)) H := hP
        have hD : va_D A (wSwO G h0 s0 b0 af fac lx gx ly gy lz gz lo (lo - 1)) := hD
        exact W.vret hx hb hr (fun t ht hW => ⟨⟨(lo, lo - 1), rfl, so_e hF, qW_mk ht hP hK hW hD⟩, hS.F ht⟩) hS.2.2 dX7_bound_62
    · replace hF := it_n c_2 hF
      refine lv_aload_n hx hb dX7_bound_27 rfl (lv_at hl 0 rfl) ?_
      refine lv_aload_n hx hb dX7_bound_28 rfl (lv_at hl 0 rfl) ?_
      refine va_get (ci := 7) (v := .int lo) (C := RX7) (T := TX7) (N := 12) hx hb hts hin7 hown hK hP 0 rfl rfl 10 (by decide) hfl64 (fun _ h9 => h9) rfl dX7_bound_29 ?_
      refine lv_iload_n hx hb dX7_bound_32 rfl (lv_at hl 2 rfl) ?_
      refine lv_iload_n hx hb dX7_bound_33 rfl (lv_at hl 1 rfl) ?_
      refine lv_ineg hx hb dX7_bound_34 ?_
      obtain ⟨hz_4, hF⟩ := gd_nz_s hF
      refine va_mfdv hx hb (by rw [hml]; exact hl.1.symm) hown hm87 hmsf hmif hmcf (Nat.le_of_ble_eq_true rfl) (Nat.le_of_ble_eq_true rfl) (Nat.le_of_ble_eq_true rfl) (Nat.le_of_ble_eq_true rfl) hz_4 dX7_bound_35 ?_
      refine lv_ineg hx hb dX7_bound_38 ?_
      refine va_mmax hx hb (by rw [hml]; exact hl.1.symm) hown hm40 hmsmax hmi hmcmax (Nat.le_of_ble_eq_true rfl) (Nat.le_of_ble_eq_true rfl) (Nat.le_of_ble_eq_true rfl) (Nat.le_of_ble_eq_true rfl) dX7_bound_39 ?_
      refine va_put (ci := 7) (v := .int (if lo < -(fdv p2 (-p1)) then -(fdv p2 (-p1)) else lo)) (ty := .int) (C := RX7) (T := TX7) (N := 12) hx hb hts hin7 tyX7 tyX7_ok nmX7 hown hK hP hD hS 0 rfl rfl 10 (by decide) hfl64 (fun _ h9 => h9) rfl (by decide +kernel) rfl rfl (Nat.le_of_ble_eq_true rfl) dX7_bound_42 (fun H locs hP hD hS => ?_)
      have hP : va_P (gD G) vwCl (wSwO G h0 s0 b0 af fac lx gx ly gy lz gz (if lo < -(fdv p2 (-p1)) then -(fdv p2 (-p1)) else lo) hi) H := hP
      have hD : va_D A (wSwO G h0 s0 b0 af fac lx gx ly gy lz gz (if lo < -(fdv p2 (-p1)) then -(fdv p2 (-p1)) else lo) hi) := hD
      refine lv_goto (tgt := 62) hx hb dX7_bound_45 (by decide) ?_
      exact W.vret hx hb hr (fun t ht hW => ⟨⟨((if lo < -(fdv p2 (-p1)) then -(fdv p2 (-p1)) else lo), hi), rfl, so_e hF, qW_mk ht hP hK hW hD⟩, hS.F ht⟩) hS.2.2 dX7_bound_62
  · replace hF := it_n c_1 hF
    refine lv_aload_n hx hb dX7_bound_4 rfl (lv_at hl 0 rfl) ?_
    refine lv_aload_n hx hb dX7_bound_5 rfl (lv_at hl 0 rfl) ?_
    refine va_get (ci := 7) (v := .int hi) (C := RX7) (T := TX7) (N := 12) hx hb hts hin7 hown hK hP 0 rfl rfl 11 (by decide) hfl61 (fun _ h9 => h9) rfl dX7_bound_6 ?_
    refine lv_iload_n hx hb dX7_bound_9 rfl (lv_at hl 2 rfl) ?_
    refine lv_iload_n hx hb dX7_bound_10 rfl (lv_at hl 1 rfl) ?_
    obtain ⟨hz_5, hF⟩ := gd_nz_s hF
    refine va_mfdv hx hb (by rw [hml]; exact hl.1.symm) hown hm87 hmsf hmif hmcf (Nat.le_of_ble_eq_true rfl) (Nat.le_of_ble_eq_true rfl) (Nat.le_of_ble_eq_true rfl) (Nat.le_of_ble_eq_true rfl) hz_5 dX7_bound_11 ?_
    refine va_mmin hx hb (by rw [hml]; exact hl.1.symm) hown hm90 hmsmin hmi hmcmin (Nat.le_of_ble_eq_true rfl) (Nat.le_of_ble_eq_true rfl) (Nat.le_of_ble_eq_true rfl) (Nat.le_of_ble_eq_true rfl) dX7_bound_14 ?_
    refine va_put (ci := 7) (v := .int (if fdv p2 p1 < hi then fdv p2 p1 else hi)) (ty := .int) (C := RX7) (T := TX7) (N := 12) hx hb hts hin7 tyX7 tyX7_ok nmX7 hown hK hP hD hS 0 rfl rfl 11 (by decide) hfl61 (fun _ h9 => h9) rfl (by decide +kernel) rfl rfl (Nat.le_of_ble_eq_true rfl) dX7_bound_17 (fun H locs hP hD hS => ?_)
    have hP : va_P (gD G) vwCl (wSwO G h0 s0 b0 af fac lx gx ly gy lz gz lo (if fdv p2 p1 < hi then fdv p2 p1 else hi)) H := hP
    have hD : va_D A (wSwO G h0 s0 b0 af fac lx gx ly gy lz gz lo (if fdv p2 p1 < hi then fdv p2 p1 else hi)) := hD
    refine lv_goto (tgt := 62) hx hb dX7_bound_20 (by decide) ?_
    exact W.vret hx hb hr (fun t ht hW => ⟨⟨(lo, (if fdv p2 p1 < hi then fdv p2 p1 else hi)), rfl, so_e hF, qW_mk ht hP hK hW hD⟩, hS.F ht⟩) hS.2.2 dX7_bound_62
def fX7_lookedAt (lo : Int32) (hi : Int32) : Option (Int32) :=
  (some (if (hi - lo) + 1 < 0 then 0 else (hi - lo) + 1))
abbrev rX7_lookedAt : Room := { frames := 1, cells := 0, slots := 0, locals := 21 }
set_option maxHeartbeats 40000000 in
set_option maxRecDepth 100000 in
theorem kX7_lookedAt (l : Launch) (G : GT) (h0 s0 b0 af : Nat) (fac : Int32) (lx : Int32) (gx : Int32) (ly : Int32) (gy : Int32) (lz : Int32) (gz : Int32) (lo : Int32) (hi : Int32) (res : Int32) (hF : fX7_lookedAt lo hi = some res) : Met l yX7_lookedAt wsX7_lookedAt rX7_lookedAt (va_Pc [.ref h0] (pR G (wSwO G h0 s0 b0 af fac lx gx ly gy lz gz lo hi))) (vp_Si (fun r => r = res)) 0 0 (fun _ => False) := by
  refine Met.ofW (cc := cX7_lookedAt) (maxL := 1) (ret := (some .int)) (by decide) rfl ?_
  intro p e s m args below meth c s₁ B hml hv
  obtain ⟨rfl, hP, hK⟩ := hv
  have hx := B.exec
  have hb := B.bytes
  have hr := B.returns
  have hts := atoms_spec (ws := wsX7_lookedAt) B.pre
  have hown : s.vm.findClass RX7 = some m.cls := findClass_of_methodNamed B.named
  have hlocks := B.notSynchronized
  have hin7 : ∀ w ∈ u_ws RX7 TX7 12, w ∈ wsX7_lookedAt := by decide +kernel
  have hfl61 := hts (.fieldLink RX7 61 "SwellBodies$Swelling" "high" "I") (by decide +kernel)
  have hfl64 := hts (.fieldLink RX7 64 "SwellBodies$Swelling" "low" "I") (by decide +kernel)
  have hm40 := hts (.methodLink RX7 40 Lib.Math.max.name) (by decide +kernel)
  have hmsmax := hts (.static Lib.Math.max.name) (by decide +kernel)
  have hmi := hts (.initialized "java/lang/Math") (by decide +kernel)
  have hmcmax := hts (.code Lib.Math.max.name Lib.Math.max.code 2 (some .int)) (by decide +kernel)
  have hl := lv_entry ([.ref h0]) (n := 1) (Nat.le_of_ble_eq_true rfl)
  rw [lg_entry_eq]
  generalize (lg_sl ([.ref h0]) ++ List.replicate (1 - (lg_sl ([.ref h0])).length) Slot.unset).toArray = ls at hl ⊢
  have hl : lv_has ls 1 [(0, .ref h0)] := hl
  unfold fX7_lookedAt at hF
  refine lv_aload_n hx hb dX7_lookedAt_0 rfl (lv_at hl 0 rfl) ?_
  refine va_get (ci := 7) (v := .int hi) (C := RX7) (T := TX7) (N := 12) hx hb hts hin7 hown hK hP 0 rfl rfl 11 (by decide) hfl61 (fun _ h9 => h9) rfl dX7_lookedAt_1 ?_
  refine lv_aload_n hx hb dX7_lookedAt_4 rfl (lv_at hl 0 rfl) ?_
  refine va_get (ci := 7) (v := .int lo) (C := RX7) (T := TX7) (N := 12) hx hb hts hin7 hown hK hP 0 rfl rfl 10 (by decide) hfl64 (fun _ h9 => h9) rfl dX7_lookedAt_5 ?_
  refine lv_isub hx hb dX7_lookedAt_8 ?_
  refine lv_iconst (v := 1) hx hb dX7_lookedAt_9 (by decide) ?_
  refine lv_iadd hx hb dX7_lookedAt_10 ?_
  refine lv_iconst (v := 0) hx hb dX7_lookedAt_11 (by decide) ?_
  refine va_mmax hx hb (by rw [hml]; exact hl.1.symm) hown hm40 hmsmax hmi hmcmax (Nat.le_of_ble_eq_true rfl) (Nat.le_of_ble_eq_true rfl) (Nat.le_of_ble_eq_true rfl) (Nat.le_of_ble_eq_true rfl) dX7_lookedAt_12 ?_
  exact W.iret (v := (if (hi - lo) + 1 < 0 then 0 else (hi - lo) + 1)) hx hb hr  (fun t ht hW => ⟨(if (hi - lo) + 1 < 0 then 0 else (hi - lo) + 1), rfl, (so_e hF), ht⟩) (fun q h => absurd h List.not_mem_nil) dX7_lookedAt_15
def LX7_look_120 (ns : Nat) (nb : Nat) (fac : Int32) (lz : Int32) (gz : Int32) (ss : Int32) (SA : Nat → Int32) (SB : Nat → Int32) (SC : Nat → Int32) (SE : Nat → Int32) (bs : Int32) (BA : Nat → Int32) (BB : Nat → Int32) (BC : Nat → Int32) (BD : Nat → Int32)  : Nat → Int32 → Int32 → Int32 → Int32 → Int32 → Option (Int32 × Int32)
  | 0, _, _, _, _, _ => none
  | k + 1, a1, a2, a3, mlo, mhi =>
  (if ss ≤ a3 then (some (mlo, mhi)) else (if mhi < mlo then (some (mlo, mhi)) else (gd_in a3 ns (bd (fX7_bound mlo mhi (SC a3.toNatClampNeg) ((((SE a3.toNatClampNeg) * fac) - ((SA a3.toNatClampNeg) * a1)) - ((SB a3.toNatClampNeg) * a2))) (fun v_5 => (LX7_look_120 ns nb fac lz gz ss SA SB SC SE bs BA BB BC BD k a1 a2 (a3 + 1) v_5.1 v_5.2))))))
def JX7_look_118 (ns : Nat) (nb : Nat) (fac : Int32) (lz : Int32) (gz : Int32) (ss : Int32) (SA : Nat → Int32) (SB : Nat → Int32) (SC : Nat → Int32) (SE : Nat → Int32) (bs : Int32) (BA : Nat → Int32) (BB : Nat → Int32) (BC : Nat → Int32) (BD : Nat → Int32)  (a1 : Int32) (a2 : Int32) (mlo : Int32) (mhi : Int32) : Option (Int32 × Int32) :=
  (LX7_look_120 ns nb fac lz gz ss SA SB SC SE bs BA BB BC BD FU a1 a2 0 mlo mhi)
def LX7_look_18 (ns : Nat) (nb : Nat) (fac : Int32) (lz : Int32) (gz : Int32) (ss : Int32) (SA : Nat → Int32) (SB : Nat → Int32) (SC : Nat → Int32) (SE : Nat → Int32) (bs : Int32) (BA : Nat → Int32) (BB : Nat → Int32) (BC : Nat → Int32) (BD : Nat → Int32)  : Nat → Int32 → Int32 → Int32 → Int32 → Int32 → Option (Int32 × Int32)
  | 0, _, _, _, _, _ => none
  | k + 1, a1, a2, a3, mlo, mhi =>
  (if bs ≤ a3 then (JX7_look_118 ns nb fac lz gz ss SA SB SC SE bs BA BB BC BD a1 a2 mlo mhi) else (if mhi < mlo then (JX7_look_118 ns nb fac lz gz ss SA SB SC SE bs BA BB BC BD a1 a2 mlo mhi) else (gd_in a3 nb (cut ((((BD a3.toNatClampNeg) * fac) - ((BA a3.toNatClampNeg) * a1)) - ((BB a3.toNatClampNeg) * a2)) (fun c_8 => (bd (fX7_bound mlo mhi (BC a3.toNatClampNeg) c_8) (fun v_9 => (bd (fX7_bound v_9.1 v_9.2 (-(BC a3.toNatClampNeg)) (-c_8)) (fun v_10 => (LX7_look_18 ns nb fac lz gz ss SA SB SC SE bs BA BB BC BD k a1 a2 (a3 + 1) v_10.1 v_10.2))))))))))
def fX7_look (ns : Nat) (nb : Nat) (fac : Int32) (lz : Int32) (gz : Int32) (lo : Int32) (hi : Int32) (ss : Int32) (SA : Nat → Int32) (SB : Nat → Int32) (SC : Nat → Int32) (SE : Nat → Int32) (bs : Int32) (BA : Nat → Int32) (BB : Nat → Int32) (BC : Nat → Int32) (BD : Nat → Int32) (p1 : Int32) (p2 : Int32) : Option (Int32 × Int32) :=
  (LX7_look_18 ns nb fac lz gz ss SA SB SC SE bs BA BB BC BD FU p1 p2 0 lz gz)
abbrev rX7_look : Room := { frames := 2, cells := 0, slots := 0, locals := 44 }
set_option maxHeartbeats 40000000 in
set_option maxRecDepth 100000 in
theorem kX7_look (l : Launch) (G : GT) (h0 af s0 aa ab ac ae b0 ba bb bc be : Nat) (sz : Nat) (nf ns nb : Nat) (fac : Int32) (lx : Int32) (gx : Int32) (ly : Int32) (gy : Int32) (lz : Int32) (gz : Int32) (lo : Int32) (hi : Int32) (BE : Nat → Int32) (ss : Int32) (SA : Nat → Int32) (SB : Nat → Int32) (SC : Nat → Int32) (SE : Nat → Int32) (bs : Int32) (BA : Nat → Int32) (BB : Nat → Int32) (BC : Nat → Int32) (BD : Nat → Int32) (p1 : Int32) (p2 : Int32) (res : Int32 × Int32) (hF : fX7_look ns nb fac lz gz lo hi ss SA SB SC SE bs BA BB BC BD p1 p2 = some res) : Met l yX7_look wsX7_look rX7_look (va_Pc [.ref h0, .int p1, .int p2] (pW G sz (wSw G h0 af s0 aa ab ac ae b0 ba bb bc be nf ns nb fac lx gx ly gy lz gz lo hi BE ss SA SB SC SE bs BA BB BC BD))) (va_Qv (fun (u : Int32 × Int32) => u = res) (fun u t => qW G (va_A (wSw G h0 af s0 aa ab ac ae b0 ba bb bc be nf ns nb fac lx gx ly gy lz gz lo hi BE ss SA SB SC SE bs BA BB BC BD) sz) (wSw G h0 af s0 aa ab ac ae b0 ba bb bc be nf ns nb fac lx gx ly gy lz gz u.1 u.2 BE ss SA SB SC SE bs BA BB BC BD) t) (va_A (wSw G h0 af s0 aa ab ac ae b0 ba bb bc be nf ns nb fac lx gx ly gy lz gz lo hi BE ss SA SB SC SE bs BA BB BC BD) sz)) 0 0 (va_A (wSw G h0 af s0 aa ab ac ae b0 ba bb bc be nf ns nb fac lx gx ly gy lz gz lo hi BE ss SA SB SC SE bs BA BB BC BD) sz) := by
  refine Met.ofW (cc := cX7_look) (maxL := 5) (ret := none) (by decide) rfl ?_
  intro p e s m args below meth c s₁ B hml hv
  obtain ⟨rfl, hsz, hP, hK, hD0⟩ := hv
  have hx := B.exec
  have hb := B.bytes
  have hr := B.returns
  have hts := atoms_spec (ws := wsX7_look) B.pre
  have hown : s.vm.findClass RX7 = some m.cls := findClass_of_methodNamed B.named
  have hlocks := B.notSynchronized
  subst hsz
  have hD := hD0.self (sz := s.heap.size)
  generalize hAe : va_A (wSw G h0 af s0 aa ab ac ae b0 ba bb bc be nf ns nb fac lx gx ly gy lz gz lo hi BE ss SA SB SC SE bs BA BB BC BD) s.heap.size = A at hD ⊢
  have hA : ∀ q : Nat, s.heap.size ≤ q → A q := fun q h => by rw [← hAe]; exact Or.inr h
  have hS : va_S A s.heap s.heap [] := va_S.rf
  have hin7 : ∀ w ∈ u_ws RX7 TX7 12, w ∈ wsX7_look := by decide +kernel
  have hfl34 := hts (.fieldLink RX7 34 "SwellBodies$Swelling" "leastZ" "I") (by decide +kernel)
  have hfl64 := hts (.fieldLink RX7 64 "SwellBodies$Swelling" "low" "I") (by decide +kernel)
  have hfl37 := hts (.fieldLink RX7 37 "SwellBodies$Swelling" "greatestZ" "I") (by decide +kernel)
  have hfl61 := hts (.fieldLink RX7 61 "SwellBodies$Swelling" "high" "I") (by decide +kernel)
  have hfl15 := hts (.fieldLink RX7 15 "SwellBodies$Swelling" "bonds" "LSwellBodies$Conditions;") (by decide +kernel)
  have hin1 : ∀ w ∈ u_ws RX1 TX1 5, w ∈ wsX7_look := by decide +kernel
  have hfl67 := hts (.fieldLink RX7 67 "SwellBodies$Conditions" "size" "I") (by decide +kernel)
  have hfl9 := hts (.fieldLink RX7 9 "SwellBodies$Swelling" "sides" "LSwellBodies$Conditions;") (by decide +kernel)
  have hfl81 := hts (.fieldLink RX7 81 "SwellBodies$Conditions" "c" "[I") (by decide +kernel)
  have hfl72 := hts (.fieldLink RX7 72 "SwellBodies$Conditions" "e" "[I") (by decide +kernel)
  have hfl18 := hts (.fieldLink RX7 18 "SwellBodies$Swelling" "factor" "I") (by decide +kernel)
  have hfl75 := hts (.fieldLink RX7 75 "SwellBodies$Conditions" "a" "[I") (by decide +kernel)
  have hfl78 := hts (.fieldLink RX7 78 "SwellBodies$Conditions" "b" "[I") (by decide +kernel)
  have hl := lv_entry ([.ref h0, .int p1, .int p2]) (n := 5) (Nat.le_of_ble_eq_true rfl)
  rw [lg_entry_eq]
  generalize (lg_sl ([.ref h0, .int p1, .int p2]) ++ List.replicate (5 - (lg_sl ([.ref h0, .int p1, .int p2])).length) Slot.unset).toArray = ls at hl ⊢
  have hl : lv_has ls 5 [(0, .ref h0), (1, .int p1), (2, .int p2)] := hl
  have hL120 : ∀ (k : Nat), ∀ (a1 : Int32) (a2 : Int32) (a3 : Int32) (mlo : Int32) (mhi : Int32) (H : Heap) (locs : List Loc) (ls : Array Slot), LX7_look_120 ns nb fac lz gz ss SA SB SC SE bs BA BB BC BD k a1 a2 a3 mlo mhi = some res → va_P (gD G) vwCl (wSw G h0 af s0 aa ab ac ae b0 ba bb bc be nf ns nb fac lx gx ly gy lz gz mlo mhi BE ss SA SB SC SE bs BA BB BC BD) H → va_D A (wSw G h0 af s0 aa ab ac ae b0 ba bb bc be nf ns nb fac lx gx ly gy lz gz mlo mhi BE ss SA SB SC SE bs BA BB BC BD) → va_S A s.heap H locs → lv_has ls 5 [(0, .ref h0), (1, .int a1), (2, .int a2), (3, .int a3)] → W p l e (headSpec wsX7_look rX7_look).room s m ([.ref h0, .int p1, .int p2] : List Value).toArray below meth c H locs 0 0 (MQ below (va_Qv (fun (u : Int32 × Int32) => u = res) (fun u t => qW G A (wSw G h0 af s0 aa ab ac ae b0 ba bb bc be nf ns nb fac lx gx ly gy lz gz u.1 u.2 BE ss SA SB SC SE bs BA BB BC BD) t) A) ([.ref h0, .int p1, .int p2] : List Value).toArray s 0 0 A) (F0 m 120 ls []) := by
    intro k
    induction k with
    | zero =>
      intro a1 a2 a3 mlo mhi H locs ls hF hP hD hS hl
      rw [LX7_look_120] at hF
      cases hF
    | succ k ih =>
      intro a1 a2 a3 mlo mhi H locs ls hF hP hD hS hl
      rw [LX7_look_120] at hF
      refine lv_iload_n hx hb dX7_look_120 rfl (lv_at hl 3 rfl) ?_
      refine lv_aload_n hx hb dX7_look_121 rfl (lv_at hl 0 rfl) ?_
      refine va_get (ci := 7) (v := .ref s0) (C := RX7) (T := TX7) (N := 12) hx hb hts hin7 hown hK hP 0 rfl rfl 0 (by decide) hfl9 (fun _ h9 => h9) rfl dX7_look_122 ?_
      refine va_get (ci := 1) (v := .int ss) (C := RX1) (T := TX1) (N := 5) hx hb hts hin1 hown hK hP 2 rfl rfl 4 (by decide) hfl67 (fun _ h9 => h9) rfl dX7_look_125 ?_
      refine lv_icmp_ge (tgt := 199) hx hb dX7_look_128 (by decide) (fun c_2 => ?_) (fun c_2 => ?_)
      · replace hF := it_p c_2 hF
        exact W.vret hx hb hr (fun t ht hW => ⟨⟨(mlo, mhi), rfl, so_e hF, qW_mk ht hP hK hW hD⟩, hS.F ht⟩) hS.2.2 dX7_look_199
      · replace hF := it_n c_2 hF
        refine lv_aload_n hx hb dX7_look_131 rfl (lv_at hl 0 rfl) ?_
        refine va_get (ci := 7) (v := .int mlo) (C := RX7) (T := TX7) (N := 12) hx hb hts hin7 hown hK hP 0 rfl rfl 10 (by decide) hfl64 (fun _ h9 => h9) rfl dX7_look_132 ?_
        refine lv_aload_n hx hb dX7_look_135 rfl (lv_at hl 0 rfl) ?_
        refine va_get (ci := 7) (v := .int mhi) (C := RX7) (T := TX7) (N := 12) hx hb hts hin7 hown hK hP 0 rfl rfl 11 (by decide) hfl61 (fun _ h9 => h9) rfl dX7_look_136 ?_
        refine lv_icmp_gt (tgt := 199) hx hb dX7_look_139 (by decide) (fun c_3 => ?_) (fun c_3 => ?_)
        · replace hF := it_p c_3 hF
          exact W.vret hx hb hr (fun t ht hW => ⟨⟨(mlo, mhi), rfl, so_e hF, qW_mk ht hP hK hW hD⟩, hS.F ht⟩) hS.2.2 dX7_look_199
        · replace hF := it_n c_3 hF
          refine lv_aload_n hx hb dX7_look_142 rfl (lv_at hl 0 rfl) ?_
          refine lv_aload_n hx hb dX7_look_143 rfl (lv_at hl 0 rfl) ?_
          refine va_get (ci := 7) (v := .ref s0) (C := RX7) (T := TX7) (N := 12) hx hb hts hin7 hown hK hP 0 rfl rfl 0 (by decide) hfl9 (fun _ h9 => h9) rfl dX7_look_144 ?_
          refine va_get (ci := 1) (v := .ref ac) (C := RX1) (T := TX1) (N := 5) hx hb hts hin1 hown hK hP 2 rfl rfl 2 (by decide) hfl81 (fun _ h9 => h9) rfl dX7_look_147 ?_
          refine lv_iload_n hx hb dX7_look_150 rfl (lv_at hl 3 rfl) ?_
          obtain ⟨hi_4, hF⟩ := gd_in_s hF
          refine va_iald hx hb hK hP 5 0 rfl rfl hi_4 dX7_look_151 ?_
          refine lv_aload_n hx hb dX7_look_152 rfl (lv_at hl 0 rfl) ?_
          refine va_get (ci := 7) (v := .ref s0) (C := RX7) (T := TX7) (N := 12) hx hb hts hin7 hown hK hP 0 rfl rfl 0 (by decide) hfl9 (fun _ h9 => h9) rfl dX7_look_153 ?_
          refine va_get (ci := 1) (v := .ref ae) (C := RX1) (T := TX1) (N := 5) hx hb hts hin1 hown hK hP 2 rfl rfl 3 (by decide) hfl72 (fun _ h9 => h9) rfl dX7_look_156 ?_
          refine lv_iload_n hx hb dX7_look_159 rfl (lv_at hl 3 rfl) ?_
          refine va_iald hx hb hK hP 6 0 rfl rfl hi_4 dX7_look_160 ?_
          refine lv_aload_n hx hb dX7_look_161 rfl (lv_at hl 0 rfl) ?_
          refine va_get (ci := 7) (v := .int fac) (C := RX7) (T := TX7) (N := 12) hx hb hts hin7 hown hK hP 0 rfl rfl 2 (by decide) hfl18 (fun _ h9 => h9) rfl dX7_look_162 ?_
          refine lv_imul hx hb dX7_look_165 ?_
          refine lv_aload_n hx hb dX7_look_166 rfl (lv_at hl 0 rfl) ?_
          refine va_get (ci := 7) (v := .ref s0) (C := RX7) (T := TX7) (N := 12) hx hb hts hin7 hown hK hP 0 rfl rfl 0 (by decide) hfl9 (fun _ h9 => h9) rfl dX7_look_167 ?_
          refine va_get (ci := 1) (v := .ref aa) (C := RX1) (T := TX1) (N := 5) hx hb hts hin1 hown hK hP 2 rfl rfl 0 (by decide) hfl75 (fun _ h9 => h9) rfl dX7_look_170 ?_
          refine lv_iload_n hx hb dX7_look_173 rfl (lv_at hl 3 rfl) ?_
          refine va_iald hx hb hK hP 3 0 rfl rfl hi_4 dX7_look_174 ?_
          refine lv_iload_n hx hb dX7_look_175 rfl (lv_at hl 1 rfl) ?_
          refine lv_imul hx hb dX7_look_176 ?_
          refine lv_isub hx hb dX7_look_177 ?_
          refine lv_aload_n hx hb dX7_look_178 rfl (lv_at hl 0 rfl) ?_
          refine va_get (ci := 7) (v := .ref s0) (C := RX7) (T := TX7) (N := 12) hx hb hts hin7 hown hK hP 0 rfl rfl 0 (by decide) hfl9 (fun _ h9 => h9) rfl dX7_look_179 ?_
          refine va_get (ci := 1) (v := .ref ab) (C := RX1) (T := TX1) (N := 5) hx hb hts hin1 hown hK hP 2 rfl rfl 1 (by decide) hfl78 (fun _ h9 => h9) rfl dX7_look_182 ?_
          refine lv_iload_n hx hb dX7_look_185 rfl (lv_at hl 3 rfl) ?_
          refine va_iald hx hb hK hP 4 0 rfl rfl hi_4 dX7_look_186 ?_
          refine lv_iload_n hx hb dX7_look_187 rfl (lv_at hl 2 rfl) ?_
          refine lv_imul hx hb dX7_look_188 ?_
          refine lv_isub hx hb dX7_look_189 ?_
          obtain ⟨v_5, hv_5, hF⟩ := bd_s hF
          refine rw_ve (wf := (fun (u : Int32 × Int32) => (wSwO G h0 s0 b0 af fac lx gx ly gy lz gz u.1 u.2))) (wr := [(af, .inl (gI G, nf, .inl BE)), (s0, .inr (1, [.ref aa, .ref ab, .ref ac, .ref ae, .int ss])), (aa, .inl (gI G, ns, .inl SA)), (ab, .inl (gI G, ns, .inl SB)), (ac, .inl (gI G, ns, .inl SC)), (ae, .inl (gI G, ns, .inl SE)), (b0, .inr (1, [.ref ba, .ref bb, .ref bc, .ref be, .int bs])), (ba, .inl (gI G, nb, .inl BA)), (bb, .inl (gI G, nb, .inl BB)), (bc, .inl (gI G, nb, .inl BC)), (be, .inl (gI G, nb, .inl BD))]) (va_runV (As := [.int (SC a3.toNatClampNeg), .int ((((SE a3.toNatClampNeg) * fac) - ((SA a3.toNatClampNeg) * a1)) - ((SB a3.toNatClampNeg) * a2))]) (rest := []) ⟨hx, hb, hml, hown, hts⟩ (kX7_bound l G h0 s0 b0 af H.size fac lx gx ly gy lz gz mlo mhi (SC a3.toNatClampNeg) ((((SE a3.toNatClampNeg) * fac) - ((SA a3.toNatClampNeg) * a1)) - ((SB a3.toNatClampNeg) * a2)) v_5 hv_5) (cwV 2 hts gX7_look_X7_bound rfl rfl rfl (by decide +kernel) ⟨Nat.le_of_ble_eq_true rfl, Nat.le_of_ble_eq_true rfl⟩) (pvW (q0 := 0) 7 hK (hP.sub (ws' := (wSwO G h0 s0 b0 af fac lx gx ly gy lz gz mlo mhi)) [0] rfl) (hD.sub (ws' := (wSwO G h0 s0 b0 af fac lx gx ly gy lz gz mlo mhi)) [0] (by decide) rfl) rfl rfl) rfl rfl hl.1 rfl (lv_room (Nat.le_of_ble_eq_true rfl)) dX7_look_190 ⟨Nat.le_of_ble_eq_true rfl, Nat.le_of_ble_eq_true rfl⟩) hP hD hS hA [0] [1, 2, 3, 4, 5, 6, 7, 8, 9, 10, 11] rfl rfl (by decide) (by decide) (fun H locs  hP hD hS => ?_)
          have hP : va_P (gD G) vwCl (wSw G h0 af s0 aa ab ac ae b0 ba bb bc be nf ns nb fac lx gx ly gy lz gz v_5.1 v_5.2 BE ss SA SB SC SE bs BA BB BC BD) H := hP.sub [11, 0, 1, 2, 3, 4, 5, 6, 7, 8, 9, 10] rfl
          have hD : va_D A (wSw G h0 af s0 aa ab ac ae b0 ba bb bc be nf ns nb fac lx gx ly gy lz gz v_5.1 v_5.2 BE ss SA SB SC SE bs BA BB BC BD) := hD.sub [11, 0, 1, 2, 3, 4, 5, 6, 7, 8, 9, 10] (by decide) rfl
          refine lv_iinc (v := a3 + 1) (lv' := [(3, .int (a3 + 1)), (0, .ref h0), (1, .int a1), (2, .int a2)]) hx hb dX7_look_193 hl (k := 3) rfl rfl (by decide) rfl (fun ls hl => ?_)
          refine lv_goto (tgt := 120) hx hb dX7_look_196 (by decide) ?_
          exact ih a1 a2 (a3 + 1) v_5.1 v_5.2 _ _ _ hF hP hD hS (lv_sub hl [1, 2, 3, 0] rfl)
  have hJ118 : ∀ (a1 : Int32) (a2 : Int32) (mlo : Int32) (mhi : Int32) (H : Heap) (locs : List Loc) (ls : Array Slot), JX7_look_118 ns nb fac lz gz ss SA SB SC SE bs BA BB BC BD a1 a2 mlo mhi = some res → va_P (gD G) vwCl (wSw G h0 af s0 aa ab ac ae b0 ba bb bc be nf ns nb fac lx gx ly gy lz gz mlo mhi BE ss SA SB SC SE bs BA BB BC BD) H → va_D A (wSw G h0 af s0 aa ab ac ae b0 ba bb bc be nf ns nb fac lx gx ly gy lz gz mlo mhi BE ss SA SB SC SE bs BA BB BC BD) → va_S A s.heap H locs → lv_has ls 5 [(0, .ref h0), (1, .int a1), (2, .int a2)] → W p l e (headSpec wsX7_look rX7_look).room s m ([.ref h0, .int p1, .int p2] : List Value).toArray below meth c H locs 0 0 (MQ below (va_Qv (fun (u : Int32 × Int32) => u = res) (fun u t => qW G A (wSw G h0 af s0 aa ab ac ae b0 ba bb bc be nf ns nb fac lx gx ly gy lz gz u.1 u.2 BE ss SA SB SC SE bs BA BB BC BD) t) A) ([.ref h0, .int p1, .int p2] : List Value).toArray s 0 0 A) (F0 m 118 ls []) := by
    intro a1 a2 mlo mhi H locs ls hF hP hD hS hl
    unfold JX7_look_118 at hF
    refine lv_iconst (v := 0) hx hb dX7_look_118 (by decide) ?_
    refine lv_istore_n (lv' := [(3, .int 0), (0, .ref h0), (1, .int a1), (2, .int a2)]) hx hb dX7_look_119 rfl hl (by decide) rfl (fun ls hl => ?_)
    exact hL120 FU a1 a2 0 mlo mhi _ _ _ hF hP hD hS (lv_sub hl [1, 2, 3, 0] rfl)
  have hL18 : ∀ (k : Nat), ∀ (a1 : Int32) (a2 : Int32) (a3 : Int32) (mlo : Int32) (mhi : Int32) (H : Heap) (locs : List Loc) (ls : Array Slot), LX7_look_18 ns nb fac lz gz ss SA SB SC SE bs BA BB BC BD k a1 a2 a3 mlo mhi = some res → va_P (gD G) vwCl (wSw G h0 af s0 aa ab ac ae b0 ba bb bc be nf ns nb fac lx gx ly gy lz gz mlo mhi BE ss SA SB SC SE bs BA BB BC BD) H → va_D A (wSw G h0 af s0 aa ab ac ae b0 ba bb bc be nf ns nb fac lx gx ly gy lz gz mlo mhi BE ss SA SB SC SE bs BA BB BC BD) → va_S A s.heap H locs → lv_has ls 5 [(0, .ref h0), (1, .int a1), (2, .int a2), (3, .int a3)] → W p l e (headSpec wsX7_look rX7_look).room s m ([.ref h0, .int p1, .int p2] : List Value).toArray below meth c H locs 0 0 (MQ below (va_Qv (fun (u : Int32 × Int32) => u = res) (fun u t => qW G A (wSw G h0 af s0 aa ab ac ae b0 ba bb bc be nf ns nb fac lx gx ly gy lz gz u.1 u.2 BE ss SA SB SC SE bs BA BB BC BD) t) A) ([.ref h0, .int p1, .int p2] : List Value).toArray s 0 0 A) (F0 m 18 ls []) := by
    intro k
    induction k with
    | zero =>
      intro a1 a2 a3 mlo mhi H locs ls hF hP hD hS hl
      rw [LX7_look_18] at hF
      cases hF
    | succ k ih =>
      intro a1 a2 a3 mlo mhi H locs ls hF hP hD hS hl
      rw [LX7_look_18] at hF
      refine lv_iload_n hx hb dX7_look_18 rfl (lv_at hl 3 rfl) ?_
      refine lv_aload_n hx hb dX7_look_19 rfl (lv_at hl 0 rfl) ?_
      refine va_get (ci := 7) (v := .ref b0) (C := RX7) (T := TX7) (N := 12) hx hb hts hin7 hown hK hP 0 rfl rfl 1 (by decide) hfl15 (fun _ h9 => h9) rfl dX7_look_20 ?_
      refine va_get (ci := 1) (v := .int bs) (C := RX1) (T := TX1) (N := 5) hx hb hts hin1 hown hK hP 7 rfl rfl 4 (by decide) hfl67 (fun _ h9 => h9) rfl dX7_look_23 ?_
      refine lv_icmp_ge (tgt := 118) hx hb dX7_look_26 (by decide) (fun c_1 => ?_) (fun c_1 => ?_)
      · replace hF := it_p c_1 hF
        exact hJ118 a1 a2 mlo mhi _ _ _ hF hP hD hS (lv_sub hl [0, 1, 2] rfl)
      · replace hF := it_n c_1 hF
        refine lv_aload_n hx hb dX7_look_29 rfl (lv_at hl 0 rfl) ?_
        refine va_get (ci := 7) (v := .int mlo) (C := RX7) (T := TX7) (N := 12) hx hb hts hin7 hown hK hP 0 rfl rfl 10 (by decide) hfl64 (fun _ h9 => h9) rfl dX7_look_30 ?_
        refine lv_aload_n hx hb dX7_look_33 rfl (lv_at hl 0 rfl) ?_
        refine va_get (ci := 7) (v := .int mhi) (C := RX7) (T := TX7) (N := 12) hx hb hts hin7 hown hK hP 0 rfl rfl 11 (by decide) hfl61 (fun _ h9 => h9) rfl dX7_look_34 ?_
        refine lv_icmp_gt (tgt := 118) hx hb dX7_look_37 (by decide) (fun c_6 => ?_) (fun c_6 => ?_)
        · replace hF := it_p c_6 hF
          exact hJ118 a1 a2 mlo mhi _ _ _ hF hP hD hS (lv_sub hl [0, 1, 2] rfl)
        · replace hF := it_n c_6 hF
          refine lv_aload_n hx hb dX7_look_40 rfl (lv_at hl 0 rfl) ?_
          refine va_get (ci := 7) (v := .ref b0) (C := RX7) (T := TX7) (N := 12) hx hb hts hin7 hown hK hP 0 rfl rfl 1 (by decide) hfl15 (fun _ h9 => h9) rfl dX7_look_41 ?_
          refine va_get (ci := 1) (v := .ref be) (C := RX1) (T := TX1) (N := 5) hx hb hts hin1 hown hK hP 7 rfl rfl 3 (by decide) hfl72 (fun _ h9 => h9) rfl dX7_look_44 ?_
          refine lv_iload_n hx hb dX7_look_47 rfl (lv_at hl 3 rfl) ?_
          obtain ⟨hi_7, hF⟩ := gd_in_s hF
          refine va_iald hx hb hK hP 11 0 rfl rfl hi_7 dX7_look_48 ?_
          refine lv_aload_n hx hb dX7_look_49 rfl (lv_at hl 0 rfl) ?_
          refine va_get (ci := 7) (v := .int fac) (C := RX7) (T := TX7) (N := 12) hx hb hts hin7 hown hK hP 0 rfl rfl 2 (by decide) hfl18 (fun _ h9 => h9) rfl dX7_look_50 ?_
          refine lv_imul hx hb dX7_look_53 ?_
          refine lv_aload_n hx hb dX7_look_54 rfl (lv_at hl 0 rfl) ?_
          refine va_get (ci := 7) (v := .ref b0) (C := RX7) (T := TX7) (N := 12) hx hb hts hin7 hown hK hP 0 rfl rfl 1 (by decide) hfl15 (fun _ h9 => h9) rfl dX7_look_55 ?_
          refine va_get (ci := 1) (v := .ref ba) (C := RX1) (T := TX1) (N := 5) hx hb hts hin1 hown hK hP 7 rfl rfl 0 (by decide) hfl75 (fun _ h9 => h9) rfl dX7_look_58 ?_
          refine lv_iload_n hx hb dX7_look_61 rfl (lv_at hl 3 rfl) ?_
          refine va_iald hx hb hK hP 8 0 rfl rfl hi_7 dX7_look_62 ?_
          refine lv_iload_n hx hb dX7_look_63 rfl (lv_at hl 1 rfl) ?_
          refine lv_imul hx hb dX7_look_64 ?_
          refine lv_isub hx hb dX7_look_65 ?_
          refine lv_aload_n hx hb dX7_look_66 rfl (lv_at hl 0 rfl) ?_
          refine va_get (ci := 7) (v := .ref b0) (C := RX7) (T := TX7) (N := 12) hx hb hts hin7 hown hK hP 0 rfl rfl 1 (by decide) hfl15 (fun _ h9 => h9) rfl dX7_look_67 ?_
          refine va_get (ci := 1) (v := .ref bb) (C := RX1) (T := TX1) (N := 5) hx hb hts hin1 hown hK hP 7 rfl rfl 1 (by decide) hfl78 (fun _ h9 => h9) rfl dX7_look_70 ?_
          refine lv_iload_n hx hb dX7_look_73 rfl (lv_at hl 3 rfl) ?_
          refine va_iald hx hb hK hP 9 0 rfl rfl hi_7 dX7_look_74 ?_
          refine lv_iload_n hx hb dX7_look_75 rfl (lv_at hl 2 rfl) ?_
          refine lv_imul hx hb dX7_look_76 ?_
          refine lv_isub hx hb dX7_look_77 ?_
          refine lv_topi (fun c_8 ec_8 => ?_)
          replace hF := cut_at ec_8 hF
          refine lv_istore (lv' := [(4, .int c_8), (0, .ref h0), (1, .int a1), (2, .int a2), (3, .int a3)]) hx hb dX7_look_78 hl (by decide) rfl (fun ls hl => ?_)
          refine lv_aload_n hx hb dX7_look_80 rfl (lv_at hl 1 rfl) ?_
          refine lv_aload_n hx hb dX7_look_81 rfl (lv_at hl 1 rfl) ?_
          refine va_get (ci := 7) (v := .ref b0) (C := RX7) (T := TX7) (N := 12) hx hb hts hin7 hown hK hP 0 rfl rfl 1 (by decide) hfl15 (fun _ h9 => h9) rfl dX7_look_82 ?_
          refine va_get (ci := 1) (v := .ref bc) (C := RX1) (T := TX1) (N := 5) hx hb hts hin1 hown hK hP 7 rfl rfl 2 (by decide) hfl81 (fun _ h9 => h9) rfl dX7_look_85 ?_
          refine lv_iload_n hx hb dX7_look_88 rfl (lv_at hl 4 rfl) ?_
          refine va_iald hx hb hK hP 10 0 rfl rfl hi_7 dX7_look_89 ?_
          refine lv_iload hx hb dX7_look_90 (lv_at hl 0 rfl) ?_
          obtain ⟨v_9, hv_9, hF⟩ := bd_s hF
          refine rw_ve (wf := (fun (u : Int32 × Int32) => (wSwO G h0 s0 b0 af fac lx gx ly gy lz gz u.1 u.2))) (wr := [(af, .inl (gI G, nf, .inl BE)), (s0, .inr (1, [.ref aa, .ref ab, .ref ac, .ref ae, .int ss])), (aa, .inl (gI G, ns, .inl SA)), (ab, .inl (gI G, ns, .inl SB)), (ac, .inl (gI G, ns, .inl SC)), (ae, .inl (gI G, ns, .inl SE)), (b0, .inr (1, [.ref ba, .ref bb, .ref bc, .ref be, .int bs])), (ba, .inl (gI G, nb, .inl BA)), (bb, .inl (gI G, nb, .inl BB)), (bc, .inl (gI G, nb, .inl BC)), (be, .inl (gI G, nb, .inl BD))]) (va_runV (As := [.int (BC a3.toNatClampNeg), .int c_8]) (rest := []) ⟨hx, hb, hml, hown, hts⟩ (kX7_bound l G h0 s0 b0 af H.size fac lx gx ly gy lz gz mlo mhi (BC a3.toNatClampNeg) c_8 v_9 hv_9) (cwV 2 hts gX7_look_X7_bound rfl rfl rfl (by decide +kernel) ⟨Nat.le_of_ble_eq_true rfl, Nat.le_of_ble_eq_true rfl⟩) (pvW (q0 := 0) 7 hK (hP.sub (ws' := (wSwO G h0 s0 b0 af fac lx gx ly gy lz gz mlo mhi)) [0] rfl) (hD.sub (ws' := (wSwO G h0 s0 b0 af fac lx gx ly gy lz gz mlo mhi)) [0] (by decide) rfl) rfl rfl) rfl rfl hl.1 rfl (lv_room (Nat.le_of_ble_eq_true rfl)) dX7_look_92 ⟨Nat.le_of_ble_eq_true rfl, Nat.le_of_ble_eq_true rfl⟩) hP hD hS hA [0] [1, 2, 3, 4, 5, 6, 7, 8, 9, 10, 11] rfl rfl (by decide) (by decide) (fun H locs  hP hD hS => ?_)
          have hP : va_P (gD G) vwCl (wSw G h0 af s0 aa ab ac ae b0 ba bb bc be nf ns nb fac lx gx ly gy lz gz v_9.1 v_9.2 BE ss SA SB SC SE bs BA BB BC BD) H := hP.sub [11, 0, 1, 2, 3, 4, 5, 6, 7, 8, 9, 10] rfl
          have hD : va_D A (wSw G h0 af s0 aa ab ac ae b0 ba bb bc be nf ns nb fac lx gx ly gy lz gz v_9.1 v_9.2 BE ss SA SB SC SE bs BA BB BC BD) := hD.sub [11, 0, 1, 2, 3, 4, 5, 6, 7, 8, 9, 10] (by decide) rfl
          refine lv_aload_n hx hb dX7_look_95 rfl (lv_at hl 1 rfl) ?_
          refine lv_aload_n hx hb dX7_look_96 rfl (lv_at hl 1 rfl) ?_
          refine va_get (ci := 7) (v := .ref b0) (C := RX7) (T := TX7) (N := 12) hx hb hts hin7 hown hK hP 0 rfl rfl 1 (by decide) hfl15 (fun _ h9 => h9) rfl dX7_look_97 ?_
          refine va_get (ci := 1) (v := .ref bc) (C := RX1) (T := TX1) (N := 5) hx hb hts hin1 hown hK hP 7 rfl rfl 2 (by decide) hfl81 (fun _ h9 => h9) rfl dX7_look_100 ?_
          refine lv_iload_n hx hb dX7_look_103 rfl (lv_at hl 4 rfl) ?_
          refine va_iald hx hb hK hP 10 0 rfl rfl hi_7 dX7_look_104 ?_
          refine lv_ineg hx hb dX7_look_105 ?_
          refine lv_iload hx hb dX7_look_106 (lv_at hl 0 rfl) ?_
          refine lv_ineg hx hb dX7_look_108 ?_
          obtain ⟨v_10, hv_10, hF⟩ := bd_s hF
          refine rw_ve (wf := (fun (u : Int32 × Int32) => (wSwO G h0 s0 b0 af fac lx gx ly gy lz gz u.1 u.2))) (wr := [(af, .inl (gI G, nf, .inl BE)), (s0, .inr (1, [.ref aa, .ref ab, .ref ac, .ref ae, .int ss])), (aa, .inl (gI G, ns, .inl SA)), (ab, .inl (gI G, ns, .inl SB)), (ac, .inl (gI G, ns, .inl SC)), (ae, .inl (gI G, ns, .inl SE)), (b0, .inr (1, [.ref ba, .ref bb, .ref bc, .ref be, .int bs])), (ba, .inl (gI G, nb, .inl BA)), (bb, .inl (gI G, nb, .inl BB)), (bc, .inl (gI G, nb, .inl BC)), (be, .inl (gI G, nb, .inl BD))]) (va_runV (As := [.int (-(BC a3.toNatClampNeg)), .int (-c_8)]) (rest := []) ⟨hx, hb, hml, hown, hts⟩ (kX7_bound l G h0 s0 b0 af H.size fac lx gx ly gy lz gz v_9.1 v_9.2 (-(BC a3.toNatClampNeg)) (-c_8) v_10 hv_10) (cwV 2 hts gX7_look_X7_bound rfl rfl rfl (by decide +kernel) ⟨Nat.le_of_ble_eq_true rfl, Nat.le_of_ble_eq_true rfl⟩) (pvW (q0 := 0) 7 hK (hP.sub (ws' := (wSwO G h0 s0 b0 af fac lx gx ly gy lz gz v_9.1 v_9.2)) [0] rfl) (hD.sub (ws' := (wSwO G h0 s0 b0 af fac lx gx ly gy lz gz v_9.1 v_9.2)) [0] (by decide) rfl) rfl rfl) rfl rfl hl.1 rfl (lv_room (Nat.le_of_ble_eq_true rfl)) dX7_look_109 ⟨Nat.le_of_ble_eq_true rfl, Nat.le_of_ble_eq_true rfl⟩) hP hD hS hA [0] [1, 2, 3, 4, 5, 6, 7, 8, 9, 10, 11] rfl rfl (by decide) (by decide) (fun H locs  hP hD hS => ?_)
          have hP : va_P (gD G) vwCl (wSw G h0 af s0 aa ab ac ae b0 ba bb bc be nf ns nb fac lx gx ly gy lz gz v_10.1 v_10.2 BE ss SA SB SC SE bs BA BB BC BD) H := hP.sub [11, 0, 1, 2, 3, 4, 5, 6, 7, 8, 9, 10] rfl
          have hD : va_D A (wSw G h0 af s0 aa ab ac ae b0 ba bb bc be nf ns nb fac lx gx ly gy lz gz v_10.1 v_10.2 BE ss SA SB SC SE bs BA BB BC BD) := hD.sub [11, 0, 1, 2, 3, 4, 5, 6, 7, 8, 9, 10] (by decide) rfl
          refine lv_iinc (v := a3 + 1) (lv' := [(3, .int (a3 + 1)), (4, .int c_8), (0, .ref h0), (1, .int a1), (2, .int a2)]) hx hb dX7_look_112 hl (k := 4) rfl rfl (by decide) rfl (fun ls hl => ?_)
          refine lv_goto (tgt := 18) hx hb dX7_look_115 (by decide) ?_
          exact ih a1 a2 (a3 + 1) v_10.1 v_10.2 _ _ _ hF hP hD hS (lv_sub hl [2, 3, 4, 0] rfl)
  unfold fX7_look at hF
  refine lv_aload_n hx hb dX7_look_0 rfl (lv_at hl 0 rfl) ?_
  refine lv_aload_n hx hb dX7_look_1 rfl (lv_at hl 0 rfl) ?_
  refine va_get (ci := 7) (v := .int lz) (C := RX7) (T := TX7) (N := 12) hx hb hts hin7 hown hK hP 0 rfl rfl 7 (by decide) hfl34 (fun _ h9 => h9) rfl dX7_look_2 ?_
  refine va_put (ci := 7) (v := .int lz) (ty := .int) (C := RX7) (T := TX7) (N := 12) hx hb hts hin7 tyX7 tyX7_ok nmX7 hown hK hP hD hS 0 rfl rfl 10 (by decide) hfl64 (fun _ h9 => h9) rfl (by decide +kernel) rfl rfl (Nat.le_of_ble_eq_true rfl) dX7_look_5 (fun H locs hP hD hS => ?_)
  have hP : va_P (gD G) vwCl (wSw G h0 af s0 aa ab ac ae b0 ba bb bc be nf ns nb fac lx gx ly gy lz gz lz hi BE ss SA SB SC SE bs BA BB BC BD) H := hP
  have hD : va_D A (wSw G h0 af s0 aa ab ac ae b0 ba bb bc be nf ns nb fac lx gx ly gy lz gz lz hi BE ss SA SB SC SE bs BA BB BC BD) := hD
  refine lv_aload_n hx hb dX7_look_8 rfl (lv_at hl 0 rfl) ?_
  refine lv_aload_n hx hb dX7_look_9 rfl (lv_at hl 0 rfl) ?_
  refine va_get (ci := 7) (v := .int gz) (C := RX7) (T := TX7) (N := 12) hx hb hts hin7 hown hK hP 0 rfl rfl 8 (by decide) hfl37 (fun _ h9 => h9) rfl dX7_look_10 ?_
  refine va_put (ci := 7) (v := .int gz) (ty := .int) (C := RX7) (T := TX7) (N := 12) hx hb hts hin7 tyX7 tyX7_ok nmX7 hown hK hP hD hS 0 rfl rfl 11 (by decide) hfl61 (fun _ h9 => h9) rfl (by decide +kernel) rfl rfl (Nat.le_of_ble_eq_true rfl) dX7_look_13 (fun H locs hP hD hS => ?_)
  have hP : va_P (gD G) vwCl (wSw G h0 af s0 aa ab ac ae b0 ba bb bc be nf ns nb fac lx gx ly gy lz gz lz gz BE ss SA SB SC SE bs BA BB BC BD) H := hP
  have hD : va_D A (wSw G h0 af s0 aa ab ac ae b0 ba bb bc be nf ns nb fac lx gx ly gy lz gz lz gz BE ss SA SB SC SE bs BA BB BC BD) := hD
  refine lv_iconst (v := 0) hx hb dX7_look_16 (by decide) ?_
  refine lv_istore_n (lv' := [(3, .int 0), (0, .ref h0), (1, .int p1), (2, .int p2)]) hx hb dX7_look_17 rfl hl (by decide) rfl (fun ls hl => ?_)
  exact hL18 FU p1 p2 0 lz gz _ _ _ hF hP hD hS (lv_sub hl [1, 2, 3, 0] rfl)
def LX7_pointsBelow_8 (ns : Nat) (nb : Nat) (fac : Int32) (ly : Int32) (gy : Int32) (lz : Int32) (gz : Int32) (ss : Int32) (SA : Nat → Int32) (SB : Nat → Int32) (SC : Nat → Int32) (SE : Nat → Int32) (bs : Int32) (BA : Nat → Int32) (BB : Nat → Int32) (BC : Nat → Int32) (BD : Nat → Int32)  : Nat → Int32 → Int32 → Int32 → Int32 → Int32 → Int32 → Option (Int32 × Int32 × Int32)
  | 0, _, _, _, _, _, _ => none
  | k + 1, a1, a2, a3, a4, mlo, mhi =>
  (if a2 ≤ a4 then (some (a3, mlo, mhi)) else (if gy < a4 then (some (a3, mlo, mhi)) else (bd (fX7_look ns nb fac lz gz mlo mhi ss SA SB SC SE bs BA BB BC BD a1 a4) (fun v_3 => (bd (fX7_lookedAt v_3.1 v_3.2) (fun v_4 => (LX7_pointsBelow_8 ns nb fac ly gy lz gz ss SA SB SC SE bs BA BB BC BD k a1 a2 (a3 + v_4) (a4 + 1) v_3.1 v_3.2)))))))
def fX7_pointsBelow (ns : Nat) (nb : Nat) (fac : Int32) (ly : Int32) (gy : Int32) (lz : Int32) (gz : Int32) (lo : Int32) (hi : Int32) (ss : Int32) (SA : Nat → Int32) (SB : Nat → Int32) (SC : Nat → Int32) (SE : Nat → Int32) (bs : Int32) (BA : Nat → Int32) (BB : Nat → Int32) (BC : Nat → Int32) (BD : Nat → Int32) (p1 : Int32) (p2 : Int32) : Option (Int32 × Int32 × Int32) :=
  (LX7_pointsBelow_8 ns nb fac ly gy lz gz ss SA SB SC SE bs BA BB BC BD FU p1 p2 0 ly lo hi)
abbrev rX7_pointsBelow : Room := { frames := 3, cells := 0, slots := 0, locals := 68 }
set_option maxHeartbeats 40000000 in
set_option maxRecDepth 100000 in
theorem kX7_pointsBelow (l : Launch) (G : GT) (h0 af s0 aa ab ac ae b0 ba bb bc be : Nat) (sz : Nat) (nf ns nb : Nat) (fac : Int32) (lx : Int32) (gx : Int32) (ly : Int32) (gy : Int32) (lz : Int32) (gz : Int32) (lo : Int32) (hi : Int32) (BE : Nat → Int32) (ss : Int32) (SA : Nat → Int32) (SB : Nat → Int32) (SC : Nat → Int32) (SE : Nat → Int32) (bs : Int32) (BA : Nat → Int32) (BB : Nat → Int32) (BC : Nat → Int32) (BD : Nat → Int32) (p1 : Int32) (p2 : Int32) (res : Int32 × Int32 × Int32) (hF : fX7_pointsBelow ns nb fac ly gy lz gz lo hi ss SA SB SC SE bs BA BB BC BD p1 p2 = some res) : Met l yX7_pointsBelow wsX7_pointsBelow rX7_pointsBelow (va_Pc [.ref h0, .int p1, .int p2] (pW G sz (wSw G h0 af s0 aa ab ac ae b0 ba bb bc be nf ns nb fac lx gx ly gy lz gz lo hi BE ss SA SB SC SE bs BA BB BC BD))) (va_Qi (fun (r : Int32) (u : Int32 × Int32) => r = res.1 ∧ u = res.2) (fun u t => qW G (va_A (wSw G h0 af s0 aa ab ac ae b0 ba bb bc be nf ns nb fac lx gx ly gy lz gz lo hi BE ss SA SB SC SE bs BA BB BC BD) sz) (wSw G h0 af s0 aa ab ac ae b0 ba bb bc be nf ns nb fac lx gx ly gy lz gz u.1 u.2 BE ss SA SB SC SE bs BA BB BC BD) t) (va_A (wSw G h0 af s0 aa ab ac ae b0 ba bb bc be nf ns nb fac lx gx ly gy lz gz lo hi BE ss SA SB SC SE bs BA BB BC BD) sz)) 0 0 (va_A (wSw G h0 af s0 aa ab ac ae b0 ba bb bc be nf ns nb fac lx gx ly gy lz gz lo hi BE ss SA SB SC SE bs BA BB BC BD) sz) := by
  refine Met.ofW (cc := cX7_pointsBelow) (maxL := 5) (ret := (some .int)) (by decide) rfl ?_
  intro p e s m args below meth c s₁ B hml hv
  obtain ⟨rfl, hsz, hP, hK, hD0⟩ := hv
  have hx := B.exec
  have hb := B.bytes
  have hr := B.returns
  have hts := atoms_spec (ws := wsX7_pointsBelow) B.pre
  have hown : s.vm.findClass RX7 = some m.cls := findClass_of_methodNamed B.named
  have hlocks := B.notSynchronized
  subst hsz
  have hD := hD0.self (sz := s.heap.size)
  generalize hAe : va_A (wSw G h0 af s0 aa ab ac ae b0 ba bb bc be nf ns nb fac lx gx ly gy lz gz lo hi BE ss SA SB SC SE bs BA BB BC BD) s.heap.size = A at hD ⊢
  have hA : ∀ q : Nat, s.heap.size ≤ q → A q := fun q h => by rw [← hAe]; exact Or.inr h
  have hS : va_S A s.heap s.heap [] := va_S.rf
  have hin7 : ∀ w ∈ u_ws RX7 TX7 12, w ∈ wsX7_pointsBelow := by decide +kernel
  have hfl28 := hts (.fieldLink RX7 28 "SwellBodies$Swelling" "leastY" "I") (by decide +kernel)
  have hfl31 := hts (.fieldLink RX7 31 "SwellBodies$Swelling" "greatestY" "I") (by decide +kernel)
  have hl := lv_entry ([.ref h0, .int p1, .int p2]) (n := 5) (Nat.le_of_ble_eq_true rfl)
  rw [lg_entry_eq]
  generalize (lg_sl ([.ref h0, .int p1, .int p2]) ++ List.replicate (5 - (lg_sl ([.ref h0, .int p1, .int p2])).length) Slot.unset).toArray = ls at hl ⊢
  have hl : lv_has ls 5 [(0, .ref h0), (1, .int p1), (2, .int p2)] := hl
  have hL8 : ∀ (k : Nat), ∀ (a1 : Int32) (a2 : Int32) (a3 : Int32) (a4 : Int32) (mlo : Int32) (mhi : Int32) (H : Heap) (locs : List Loc) (ls : Array Slot), LX7_pointsBelow_8 ns nb fac ly gy lz gz ss SA SB SC SE bs BA BB BC BD k a1 a2 a3 a4 mlo mhi = some res → va_P (gD G) vwCl (wSw G h0 af s0 aa ab ac ae b0 ba bb bc be nf ns nb fac lx gx ly gy lz gz mlo mhi BE ss SA SB SC SE bs BA BB BC BD) H → va_D A (wSw G h0 af s0 aa ab ac ae b0 ba bb bc be nf ns nb fac lx gx ly gy lz gz mlo mhi BE ss SA SB SC SE bs BA BB BC BD) → va_S A s.heap H locs → lv_has ls 5 [(0, .ref h0), (1, .int a1), (2, .int a2), (3, .int a3), (4, .int a4)] → W p l e (headSpec wsX7_pointsBelow rX7_pointsBelow).room s m ([.ref h0, .int p1, .int p2] : List Value).toArray below meth c H locs 0 0 (MQ below (va_Qi (fun (r : Int32) (u : Int32 × Int32) => r = res.1 ∧ u = res.2) (fun u t => qW G A (wSw G h0 af s0 aa ab ac ae b0 ba bb bc be nf ns nb fac lx gx ly gy lz gz u.1 u.2 BE ss SA SB SC SE bs BA BB BC BD) t) A) ([.ref h0, .int p1, .int p2] : List Value).toArray s 0 0 A) (F0 m 8 ls []) := by
    intro k
    induction k with
    | zero =>
      intro a1 a2 a3 a4 mlo mhi H locs ls hF hP hD hS hl
      rw [LX7_pointsBelow_8] at hF
      cases hF
    | succ k ih =>
      intro a1 a2 a3 a4 mlo mhi H locs ls hF hP hD hS hl
      rw [LX7_pointsBelow_8] at hF
      refine lv_iload hx hb dX7_pointsBelow_8 (lv_at hl 4 rfl) ?_
      refine lv_iload_n hx hb dX7_pointsBelow_10 rfl (lv_at hl 2 rfl) ?_
      refine lv_icmp_ge (tgt := 43) hx hb dX7_pointsBelow_11 (by decide) (fun c_1 => ?_) (fun c_1 => ?_)
      · replace hF := it_p c_1 hF
        refine lv_iload_n hx hb dX7_pointsBelow_43 rfl (lv_at hl 3 rfl) ?_
        exact W.iret (v := a3) hx hb hr  (fun t ht hW => ⟨⟨a3, (mlo, mhi), rfl, ⟨congrArg Prod.fst (so_e hF), congrArg Prod.snd (so_e hF)⟩, qW_mk ht hP hK hW hD⟩, hS.F ht⟩) hS.2.2 dX7_pointsBelow_44
      · replace hF := it_n c_1 hF
        refine lv_iload hx hb dX7_pointsBelow_14 (lv_at hl 4 rfl) ?_
        refine lv_aload_n hx hb dX7_pointsBelow_16 rfl (lv_at hl 0 rfl) ?_
        refine va_get (ci := 7) (v := .int gy) (C := RX7) (T := TX7) (N := 12) hx hb hts hin7 hown hK hP 0 rfl rfl 6 (by decide) hfl31 (fun _ h9 => h9) rfl dX7_pointsBelow_17 ?_
        refine lv_icmp_gt (tgt := 43) hx hb dX7_pointsBelow_20 (by decide) (fun c_2 => ?_) (fun c_2 => ?_)
        · replace hF := it_p c_2 hF
          refine lv_iload_n hx hb dX7_pointsBelow_43 rfl (lv_at hl 3 rfl) ?_
          exact W.iret (v := a3) hx hb hr  (fun t ht hW => ⟨⟨a3, (mlo, mhi), rfl, ⟨congrArg Prod.fst (so_e hF), congrArg Prod.snd (so_e hF)⟩, qW_mk ht hP hK hW hD⟩, hS.F ht⟩) hS.2.2 dX7_pointsBelow_44
        · replace hF := it_n c_2 hF
          refine lv_aload_n hx hb dX7_pointsBelow_23 rfl (lv_at hl 0 rfl) ?_
          refine lv_iload_n hx hb dX7_pointsBelow_24 rfl (lv_at hl 1 rfl) ?_
          refine lv_iload hx hb dX7_pointsBelow_25 (lv_at hl 4 rfl) ?_
          obtain ⟨v_3, hv_3, hF⟩ := bd_s hF
          refine rw_ve (wf := (fun (u : Int32 × Int32) => (wSw G h0 af s0 aa ab ac ae b0 ba bb bc be nf ns nb fac lx gx ly gy lz gz u.1 u.2 BE ss SA SB SC SE bs BA BB BC BD))) (wr := []) (va_runV (As := [.int a1, .int a4]) (rest := []) ⟨hx, hb, hml, hown, hts⟩ (kX7_look l G h0 af s0 aa ab ac ae b0 ba bb bc be H.size nf ns nb fac lx gx ly gy lz gz mlo mhi BE ss SA SB SC SE bs BA BB BC BD a1 a4 v_3 hv_3) (cwV 2 hts gX7_pointsBelow_X7_look rfl rfl rfl (by decide +kernel) ⟨Nat.le_of_ble_eq_true rfl, Nat.le_of_ble_eq_true rfl⟩) (pvW (q0 := 0) 7 hK (hP.sub (ws' := (wSw G h0 af s0 aa ab ac ae b0 ba bb bc be nf ns nb fac lx gx ly gy lz gz mlo mhi BE ss SA SB SC SE bs BA BB BC BD)) [0, 1, 2, 3, 4, 5, 6, 7, 8, 9, 10, 11] rfl) (hD.sub (ws' := (wSw G h0 af s0 aa ab ac ae b0 ba bb bc be nf ns nb fac lx gx ly gy lz gz mlo mhi BE ss SA SB SC SE bs BA BB BC BD)) [0, 1, 2, 3, 4, 5, 6, 7, 8, 9, 10, 11] (by decide) rfl) rfl rfl) rfl rfl hl.1 rfl (lv_room (Nat.le_of_ble_eq_true rfl)) dX7_pointsBelow_27 ⟨Nat.le_of_ble_eq_true rfl, Nat.le_of_ble_eq_true rfl⟩) hP hD hS hA [0, 1, 2, 3, 4, 5, 6, 7, 8, 9, 10, 11] [] rfl rfl (by decide) (by decide) (fun H locs  hP hD hS => ?_)
          have hP : va_P (gD G) vwCl (wSw G h0 af s0 aa ab ac ae b0 ba bb bc be nf ns nb fac lx gx ly gy lz gz v_3.1 v_3.2 BE ss SA SB SC SE bs BA BB BC BD) H := hP.sub [0, 1, 2, 3, 4, 5, 6, 7, 8, 9, 10, 11] rfl
          have hD : va_D A (wSw G h0 af s0 aa ab ac ae b0 ba bb bc be nf ns nb fac lx gx ly gy lz gz v_3.1 v_3.2 BE ss SA SB SC SE bs BA BB BC BD) := hD.sub [0, 1, 2, 3, 4, 5, 6, 7, 8, 9, 10, 11] (by decide) rfl
          refine lv_iload_n hx hb dX7_pointsBelow_30 rfl (lv_at hl 3 rfl) ?_
          refine lv_aload_n hx hb dX7_pointsBelow_31 rfl (lv_at hl 0 rfl) ?_
          obtain ⟨v_4, hv_4, hF⟩ := bd_s hF
          refine ro_ie (va_runV (As := []) (rest := [.int a3]) ⟨hx, hb, hml, hown, hts⟩ (kX7_lookedAt l G h0 s0 b0 af fac lx gx ly gy lz gz v_3.1 v_3.2 v_4 hv_4) (cwV 0 hts gX7_pointsBelow_X7_lookedAt rfl rfl rfl (by decide +kernel) ⟨Nat.le_of_ble_eq_true rfl, Nat.le_of_ble_eq_true rfl⟩) (pvR (q0 := 0) 7 hK (hP.sub (ws' := (wSwO G h0 s0 b0 af fac lx gx ly gy lz gz v_3.1 v_3.2)) [0] rfl) rfl rfl) rfl rfl hl.1 rfl (lv_room (Nat.le_of_ble_eq_true rfl)) dX7_pointsBelow_32 ⟨Nat.le_of_ble_eq_true rfl, Nat.le_of_ble_eq_true rfl⟩) ?_
          refine lv_iadd hx hb dX7_pointsBelow_35 ?_
          refine lv_istore_n (lv' := [(3, .int (a3 + v_4)), (0, .ref h0), (1, .int a1), (2, .int a2), (4, .int a4)]) hx hb dX7_pointsBelow_36 rfl hl (by decide) rfl (fun ls hl => ?_)
          refine lv_iinc (v := a4 + 1) (lv' := [(4, .int (a4 + 1)), (3, .int (a3 + v_4)), (0, .ref h0), (1, .int a1), (2, .int a2)]) hx hb dX7_pointsBelow_37 hl (k := 4) rfl rfl (by decide) rfl (fun ls hl => ?_)
          refine lv_goto (tgt := 8) hx hb dX7_pointsBelow_40 (by decide) ?_
          exact ih a1 a2 (a3 + v_4) (a4 + 1) v_3.1 v_3.2 _ _ _ hF hP hD hS (lv_sub hl [2, 3, 4, 1, 0] rfl)
  unfold fX7_pointsBelow at hF
  refine lv_iconst (v := 0) hx hb dX7_pointsBelow_0 (by decide) ?_
  refine lv_istore_n (lv' := [(3, .int 0), (0, .ref h0), (1, .int p1), (2, .int p2)]) hx hb dX7_pointsBelow_1 rfl hl (by decide) rfl (fun ls hl => ?_)
  refine lv_aload_n hx hb dX7_pointsBelow_2 rfl (lv_at hl 1 rfl) ?_
  refine va_get (ci := 7) (v := .int ly) (C := RX7) (T := TX7) (N := 12) hx hb hts hin7 hown hK hP 0 rfl rfl 5 (by decide) hfl28 (fun _ h9 => h9) rfl dX7_pointsBelow_3 ?_
  refine lv_istore (lv' := [(4, .int ly), (3, .int 0), (0, .ref h0), (1, .int p1), (2, .int p2)]) hx hb dX7_pointsBelow_6 hl (by decide) rfl (fun ls hl => ?_)
  exact hL8 FU p1 p2 0 ly lo hi _ _ _ hF hP hD hS (lv_sub hl [2, 3, 4, 1, 0] rfl)
def fX7_total (nf : Nat) (BE : Nat → Int32) : Option (Int32) :=
  (gd_in ((nI nf) - 1) nf (some (BE ((nI nf) - 1).toNatClampNeg)))
abbrev rX7_total : Room := { frames := 0, cells := 0, slots := 0, locals := 0 }
set_option maxHeartbeats 40000000 in
set_option maxRecDepth 100000 in
theorem kX7_total (l : Launch) (G : GT) (h0 af s0 b0 : Nat) (nf : Nat) (fac : Int32) (lx : Int32) (gx : Int32) (ly : Int32) (gy : Int32) (lz : Int32) (gz : Int32) (lo : Int32) (hi : Int32) (BE : Nat → Int32) (res : Int32) (hF : fX7_total nf BE = some res) : Met l yX7_total wsX7_total rX7_total (va_Pc [.ref h0] (pR G (wSwT G h0 af s0 b0 nf fac lx gx ly gy lz gz lo hi BE))) (vp_Si (fun r => r = res)) 0 0 (fun _ => False) := by
  refine Met.ofW (cc := cX7_total) (maxL := 1) (ret := (some .int)) (by decide) rfl ?_
  intro p e s m args below meth c s₁ B hml hv
  obtain ⟨rfl, hP, hK⟩ := hv
  have hx := B.exec
  have hb := B.bytes
  have hr := B.returns
  have hts := atoms_spec (ws := wsX7_total) B.pre
  have hown : s.vm.findClass RX7 = some m.cls := findClass_of_methodNamed B.named
  have hlocks := B.notSynchronized
  have hin7 : ∀ w ∈ u_ws RX7 TX7 12, w ∈ wsX7_total := by decide +kernel
  have hfl46 := hts (.fieldLink RX7 46 "SwellBodies$Swelling" "before" "[I") (by decide +kernel)
  have hl := lv_entry ([.ref h0]) (n := 1) (Nat.le_of_ble_eq_true rfl)
  rw [lg_entry_eq]
  generalize (lg_sl ([.ref h0]) ++ List.replicate (1 - (lg_sl ([.ref h0])).length) Slot.unset).toArray = ls at hl ⊢
  have hl : lv_has ls 1 [(0, .ref h0)] := hl
  unfold fX7_total at hF
  refine lv_aload_n hx hb dX7_total_0 rfl (lv_at hl 0 rfl) ?_
  refine va_get (ci := 7) (v := .ref af) (C := RX7) (T := TX7) (N := 12) hx hb hts hin7 hown hK hP 0 rfl rfl 9 (by decide) hfl46 (fun _ h9 => h9) rfl dX7_total_1 ?_
  refine lv_aload_n hx hb dX7_total_4 rfl (lv_at hl 0 rfl) ?_
  refine va_get (ci := 7) (v := .ref af) (C := RX7) (T := TX7) (N := 12) hx hb hts hin7 hown hK hP 0 rfl rfl 9 (by decide) hfl46 (fun _ h9 => h9) rfl dX7_total_5 ?_
  refine va_alen (v := nI nf) hx hb hK hP 1 0 rfl rfl rfl dX7_total_8 ?_
  refine lv_iconst (v := 1) hx hb dX7_total_9 (by decide) ?_
  refine lv_isub hx hb dX7_total_10 ?_
  obtain ⟨hi_1, hF⟩ := gd_in_s hF
  refine va_iald hx hb hK hP 1 0 rfl rfl hi_1 dX7_total_11 ?_
  exact W.iret (v := BE ((nI nf) - 1).toNatClampNeg) hx hb hr  (fun t ht hW => ⟨BE ((nI nf) - 1).toNatClampNeg, rfl, (so_e hF), ht⟩) (fun q h => absurd h List.not_mem_nil) dX7_total_12
def LX7_pointPart_71 (nf : Nat) (ns : Nat) (nb : Nat) (fac : Int32) (lx : Int32) (ly : Int32) (gy : Int32) (lz : Int32) (gz : Int32) (BE : Nat → Int32) (ss : Int32) (SA : Nat → Int32) (SB : Nat → Int32) (SC : Nat → Int32) (SE : Nat → Int32) (bs : Int32) (BA : Nat → Int32) (BB : Nat → Int32) (BC : Nat → Int32) (BD : Nat → Int32)  : Nat → Int32 → Int32 → Int32 → Int32 → Int32 → Int32 → Option (Int32 × Int32 × Int32)
  | 0, _, _, _, _, _, _ => none
  | k + 1, a2, a4, a5, a6, mlo, mhi =>
  (if gy < a6 then (some (10000, mlo, mhi)) else (bd (fX7_look ns nb fac lz gz mlo mhi ss SA SB SC SE bs BA BB BC BD a4 a6) (fun v_7 => (bd (fX7_lookedAt v_7.1 v_7.2) (fun v_8 => (if v_8 ≤ a5 then (bd (fX7_lookedAt v_7.1 v_7.2) (fun v_10 => (LX7_pointPart_71 nf ns nb fac lx ly gy lz gz BE ss SA SB SC SE bs BA BB BC BD k a2 a4 (a5 - v_10) (a6 + 1) v_7.1 v_7.2))) else (if a2 = 0 then (some (a4, v_7.1, v_7.2)) else (if a2 = 1 then (some (a6, v_7.1, v_7.2)) else (some (v_7.1 + a5, v_7.1, v_7.2))))))))))
def JX7_pointPart_47 (nf : Nat) (ns : Nat) (nb : Nat) (fac : Int32) (lx : Int32) (ly : Int32) (gy : Int32) (lz : Int32) (gz : Int32) (BE : Nat → Int32) (ss : Int32) (SA : Nat → Int32) (SB : Nat → Int32) (SC : Nat → Int32) (SE : Nat → Int32) (bs : Int32) (BA : Nat → Int32) (BB : Nat → Int32) (BC : Nat → Int32) (BD : Nat → Int32)  (a1 : Int32) (a2 : Int32) (a3 : Int32) (mlo : Int32) (mhi : Int32) : Option (Int32 × Int32 × Int32) :=
  (gd_in a3 nf (LX7_pointPart_71 nf ns nb fac lx ly gy lz gz BE ss SA SB SC SE bs BA BB BC BD FU a2 (lx + a3) (a1 - (BE a3.toNatClampNeg)) ly mlo mhi))
def LX7_pointPart_18 (nf : Nat) (ns : Nat) (nb : Nat) (fac : Int32) (lx : Int32) (ly : Int32) (gy : Int32) (lz : Int32) (gz : Int32) (BE : Nat → Int32) (ss : Int32) (SA : Nat → Int32) (SB : Nat → Int32) (SC : Nat → Int32) (SE : Nat → Int32) (bs : Int32) (BA : Nat → Int32) (BB : Nat → Int32) (BC : Nat → Int32) (BD : Nat → Int32)  : Nat → Int32 → Int32 → Int32 → Int32 → Int32 → Option (Int32 × Int32 × Int32)
  | 0, _, _, _, _, _ => none
  | k + 1, a1, a2, a3, mlo, mhi =>
  (if nI nf ≤ a3 + 2 then (JX7_pointPart_47 nf ns nb fac lx ly gy lz gz BE ss SA SB SC SE bs BA BB BC BD a1 a2 a3 mlo mhi) else (gd_in (a3 + 1) nf (if a1 < BE (a3 + 1).toNatClampNeg then (JX7_pointPart_47 nf ns nb fac lx ly gy lz gz BE ss SA SB SC SE bs BA BB BC BD a1 a2 a3 mlo mhi) else (LX7_pointPart_18 nf ns nb fac lx ly gy lz gz BE ss SA SB SC SE bs BA BB BC BD k a1 a2 (a3 + 1) mlo mhi))))
def fX7_pointPart (nf : Nat) (ns : Nat) (nb : Nat) (fac : Int32) (lx : Int32) (ly : Int32) (gy : Int32) (lz : Int32) (gz : Int32) (lo : Int32) (hi : Int32) (BE : Nat → Int32) (ss : Int32) (SA : Nat → Int32) (SB : Nat → Int32) (SC : Nat → Int32) (SE : Nat → Int32) (bs : Int32) (BA : Nat → Int32) (BB : Nat → Int32) (BC : Nat → Int32) (BD : Nat → Int32) (p1 : Int32) (p2 : Int32) : Option (Int32 × Int32 × Int32) :=
  (if p1 < 0 then (some (10000, lo, hi)) else (bd (fX7_total nf BE) (fun v_2 => (if p1 < v_2 then (LX7_pointPart_18 nf ns nb fac lx ly gy lz gz BE ss SA SB SC SE bs BA BB BC BD FU p1 p2 0 lo hi) else (some (10000, lo, hi))))))
abbrev rX7_pointPart : Room := { frames := 3, cells := 0, slots := 0, locals := 68 }
set_option maxHeartbeats 40000000 in
set_option maxRecDepth 100000 in
theorem kX7_pointPart (l : Launch) (G : GT) (h0 af s0 aa ab ac ae b0 ba bb bc be : Nat) (sz : Nat) (nf ns nb : Nat) (fac : Int32) (lx : Int32) (gx : Int32) (ly : Int32) (gy : Int32) (lz : Int32) (gz : Int32) (lo : Int32) (hi : Int32) (BE : Nat → Int32) (ss : Int32) (SA : Nat → Int32) (SB : Nat → Int32) (SC : Nat → Int32) (SE : Nat → Int32) (bs : Int32) (BA : Nat → Int32) (BB : Nat → Int32) (BC : Nat → Int32) (BD : Nat → Int32) (p1 : Int32) (p2 : Int32) (res : Int32 × Int32 × Int32) (hF : fX7_pointPart nf ns nb fac lx ly gy lz gz lo hi BE ss SA SB SC SE bs BA BB BC BD p1 p2 = some res) : Met l yX7_pointPart wsX7_pointPart rX7_pointPart (va_Pc [.ref h0, .int p1, .int p2] (pW G sz (wSw G h0 af s0 aa ab ac ae b0 ba bb bc be nf ns nb fac lx gx ly gy lz gz lo hi BE ss SA SB SC SE bs BA BB BC BD))) (va_Qi (fun (r : Int32) (u : Int32 × Int32) => r = res.1 ∧ u = res.2) (fun u t => qW G (va_A (wSw G h0 af s0 aa ab ac ae b0 ba bb bc be nf ns nb fac lx gx ly gy lz gz lo hi BE ss SA SB SC SE bs BA BB BC BD) sz) (wSw G h0 af s0 aa ab ac ae b0 ba bb bc be nf ns nb fac lx gx ly gy lz gz u.1 u.2 BE ss SA SB SC SE bs BA BB BC BD) t) (va_A (wSw G h0 af s0 aa ab ac ae b0 ba bb bc be nf ns nb fac lx gx ly gy lz gz lo hi BE ss SA SB SC SE bs BA BB BC BD) sz)) 0 0 (va_A (wSw G h0 af s0 aa ab ac ae b0 ba bb bc be nf ns nb fac lx gx ly gy lz gz lo hi BE ss SA SB SC SE bs BA BB BC BD) sz) := by
  refine Met.ofW (cc := cX7_pointPart) (maxL := 7) (ret := (some .int)) (by decide) rfl ?_
  intro p e s m args below meth c s₁ B hml hv
  obtain ⟨rfl, hsz, hP, hK, hD0⟩ := hv
  have hx := B.exec
  have hb := B.bytes
  have hr := B.returns
  have hts := atoms_spec (ws := wsX7_pointPart) B.pre
  have hown : s.vm.findClass RX7 = some m.cls := findClass_of_methodNamed B.named
  have hlocks := B.notSynchronized
  subst hsz
  have hD := hD0.self (sz := s.heap.size)
  generalize hAe : va_A (wSw G h0 af s0 aa ab ac ae b0 ba bb bc be nf ns nb fac lx gx ly gy lz gz lo hi BE ss SA SB SC SE bs BA BB BC BD) s.heap.size = A at hD ⊢
  have hA : ∀ q : Nat, s.heap.size ≤ q → A q := fun q h => by rw [← hAe]; exact Or.inr h
  have hS : va_S A s.heap s.heap [] := va_S.rf
  have hin7 : ∀ w ∈ u_ws RX7 TX7 12, w ∈ wsX7_pointPart := by decide +kernel
  have hfl46 := hts (.fieldLink RX7 46 "SwellBodies$Swelling" "before" "[I") (by decide +kernel)
  have hfl22 := hts (.fieldLink RX7 22 "SwellBodies$Swelling" "leastX" "I") (by decide +kernel)
  have hfl28 := hts (.fieldLink RX7 28 "SwellBodies$Swelling" "leastY" "I") (by decide +kernel)
  have hfl31 := hts (.fieldLink RX7 31 "SwellBodies$Swelling" "greatestY" "I") (by decide +kernel)
  have hfl64 := hts (.fieldLink RX7 64 "SwellBodies$Swelling" "low" "I") (by decide +kernel)
  have hl := lv_entry ([.ref h0, .int p1, .int p2]) (n := 7) (Nat.le_of_ble_eq_true rfl)
  rw [lg_entry_eq]
  generalize (lg_sl ([.ref h0, .int p1, .int p2]) ++ List.replicate (7 - (lg_sl ([.ref h0, .int p1, .int p2])).length) Slot.unset).toArray = ls at hl ⊢
  have hl : lv_has ls 7 [(0, .ref h0), (1, .int p1), (2, .int p2)] := hl
  have hL71 : ∀ (k : Nat), ∀ (a2 : Int32) (a4 : Int32) (a5 : Int32) (a6 : Int32) (mlo : Int32) (mhi : Int32) (H : Heap) (locs : List Loc) (ls : Array Slot), LX7_pointPart_71 nf ns nb fac lx ly gy lz gz BE ss SA SB SC SE bs BA BB BC BD k a2 a4 a5 a6 mlo mhi = some res → va_P (gD G) vwCl (wSw G h0 af s0 aa ab ac ae b0 ba bb bc be nf ns nb fac lx gx ly gy lz gz mlo mhi BE ss SA SB SC SE bs BA BB BC BD) H → va_D A (wSw G h0 af s0 aa ab ac ae b0 ba bb bc be nf ns nb fac lx gx ly gy lz gz mlo mhi BE ss SA SB SC SE bs BA BB BC BD) → va_S A s.heap H locs → lv_has ls 7 [(0, .ref h0), (2, .int a2), (4, .int a4), (5, .int a5), (6, .int a6)] → W p l e (headSpec wsX7_pointPart rX7_pointPart).room s m ([.ref h0, .int p1, .int p2] : List Value).toArray below meth c H locs 0 0 (MQ below (va_Qi (fun (r : Int32) (u : Int32 × Int32) => r = res.1 ∧ u = res.2) (fun u t => qW G A (wSw G h0 af s0 aa ab ac ae b0 ba bb bc be nf ns nb fac lx gx ly gy lz gz u.1 u.2 BE ss SA SB SC SE bs BA BB BC BD) t) A) ([.ref h0, .int p1, .int p2] : List Value).toArray s 0 0 A) (F0 m 71 ls []) := by
    intro k
    induction k with
    | zero =>
      intro a2 a4 a5 a6 mlo mhi H locs ls hF hP hD hS hl
      rw [LX7_pointPart_71] at hF
      cases hF
    | succ k ih =>
      intro a2 a4 a5 a6 mlo mhi H locs ls hF hP hD hS hl
      rw [LX7_pointPart_71] at hF
      refine lv_iload hx hb dX7_pointPart_71 (lv_at hl 4 rfl) ?_
      refine lv_aload_n hx hb dX7_pointPart_73 rfl (lv_at hl 0 rfl) ?_
      refine va_get (ci := 7) (v := .int gy) (C := RX7) (T := TX7) (N := 12) hx hb hts hin7 hown hK hP 0 rfl rfl 6 (by decide) hfl31 (fun _ h9 => h9) rfl dX7_pointPart_74 ?_
      refine lv_icmp_gt (tgt := 139) hx hb dX7_pointPart_77 (by decide) (fun c_6 => ?_) (fun c_6 => ?_)
      · replace hF := it_p c_6 hF
        refine lv_sipush (v := 10000) hx hb dX7_pointPart_139 (by decide) ?_
        exact W.iret (v := 10000) hx hb hr  (fun t ht hW => ⟨⟨10000, (mlo, mhi), rfl, ⟨congrArg Prod.fst (so_e hF), congrArg Prod.snd (so_e hF)⟩, qW_mk ht hP hK hW hD⟩, hS.F ht⟩) hS.2.2 dX7_pointPart_142
      · replace hF := it_n c_6 hF
        refine lv_aload_n hx hb dX7_pointPart_80 rfl (lv_at hl 0 rfl) ?_
        refine lv_iload hx hb dX7_pointPart_81 (lv_at hl 2 rfl) ?_
        refine lv_iload hx hb dX7_pointPart_83 (lv_at hl 4 rfl) ?_
        obtain ⟨v_7, hv_7, hF⟩ := bd_s hF
        refine rw_ve (wf := (fun (u : Int32 × Int32) => (wSw G h0 af s0 aa ab ac ae b0 ba bb bc be nf ns nb fac lx gx ly gy lz gz u.1 u.2 BE ss SA SB SC SE bs BA BB BC BD))) (wr := []) (va_runV (As := [.int a4, .int a6]) (rest := []) ⟨hx, hb, hml, hown, hts⟩ (kX7_look l G h0 af s0 aa ab ac ae b0 ba bb bc be H.size nf ns nb fac lx gx ly gy lz gz mlo mhi BE ss SA SB SC SE bs BA BB BC BD a4 a6 v_7 hv_7) (cwV 2 hts gX7_pointPart_X7_look rfl rfl rfl (by decide +kernel) ⟨Nat.le_of_ble_eq_true rfl, Nat.le_of_ble_eq_true rfl⟩) (pvW (q0 := 0) 7 hK (hP.sub (ws' := (wSw G h0 af s0 aa ab ac ae b0 ba bb bc be nf ns nb fac lx gx ly gy lz gz mlo mhi BE ss SA SB SC SE bs BA BB BC BD)) [0, 1, 2, 3, 4, 5, 6, 7, 8, 9, 10, 11] rfl) (hD.sub (ws' := (wSw G h0 af s0 aa ab ac ae b0 ba bb bc be nf ns nb fac lx gx ly gy lz gz mlo mhi BE ss SA SB SC SE bs BA BB BC BD)) [0, 1, 2, 3, 4, 5, 6, 7, 8, 9, 10, 11] (by decide) rfl) rfl rfl) rfl rfl hl.1 rfl (lv_room (Nat.le_of_ble_eq_true rfl)) dX7_pointPart_85 ⟨Nat.le_of_ble_eq_true rfl, Nat.le_of_ble_eq_true rfl⟩) hP hD hS hA [0, 1, 2, 3, 4, 5, 6, 7, 8, 9, 10, 11] [] rfl rfl (by decide) (by decide) (fun H locs  hP hD hS => ?_)
        have hP : va_P (gD G) vwCl (wSw G h0 af s0 aa ab ac ae b0 ba bb bc be nf ns nb fac lx gx ly gy lz gz v_7.1 v_7.2 BE ss SA SB SC SE bs BA BB BC BD) H := hP.sub [0, 1, 2, 3, 4, 5, 6, 7, 8, 9, 10, 11] rfl
        have hD : va_D A (wSw G h0 af s0 aa ab ac ae b0 ba bb bc be nf ns nb fac lx gx ly gy lz gz v_7.1 v_7.2 BE ss SA SB SC SE bs BA BB BC BD) := hD.sub [0, 1, 2, 3, 4, 5, 6, 7, 8, 9, 10, 11] (by decide) rfl
        refine lv_iload hx hb dX7_pointPart_88 (lv_at hl 3 rfl) ?_
        refine lv_aload_n hx hb dX7_pointPart_90 rfl (lv_at hl 0 rfl) ?_
        obtain ⟨v_8, hv_8, hF⟩ := bd_s hF
        refine ro_ie (va_runV (As := []) (rest := [.int a5]) ⟨hx, hb, hml, hown, hts⟩ (kX7_lookedAt l G h0 s0 b0 af fac lx gx ly gy lz gz v_7.1 v_7.2 v_8 hv_8) (cwV 0 hts gX7_pointPart_X7_lookedAt rfl rfl rfl (by decide +kernel) ⟨Nat.le_of_ble_eq_true rfl, Nat.le_of_ble_eq_true rfl⟩) (pvR (q0 := 0) 7 hK (hP.sub (ws' := (wSwO G h0 s0 b0 af fac lx gx ly gy lz gz v_7.1 v_7.2)) [0] rfl) rfl rfl) rfl rfl hl.1 rfl (lv_room (Nat.le_of_ble_eq_true rfl)) dX7_pointPart_91 ⟨Nat.le_of_ble_eq_true rfl, Nat.le_of_ble_eq_true rfl⟩) ?_
        refine lv_icmp_ge (tgt := 124) hx hb dX7_pointPart_94 (by decide) (fun c_9 => ?_) (fun c_9 => ?_)
        · replace hF := it_p c_9 hF
          refine lv_iload hx hb dX7_pointPart_124 (lv_at hl 3 rfl) ?_
          refine lv_aload_n hx hb dX7_pointPart_126 rfl (lv_at hl 0 rfl) ?_
          obtain ⟨v_10, hv_10, hF⟩ := bd_s hF
          refine ro_ie (va_runV (As := []) (rest := [.int a5]) ⟨hx, hb, hml, hown, hts⟩ (kX7_lookedAt l G h0 s0 b0 af fac lx gx ly gy lz gz v_7.1 v_7.2 v_10 hv_10) (cwV 0 hts gX7_pointPart_X7_lookedAt rfl rfl rfl (by decide +kernel) ⟨Nat.le_of_ble_eq_true rfl, Nat.le_of_ble_eq_true rfl⟩) (pvR (q0 := 0) 7 hK (hP.sub (ws' := (wSwO G h0 s0 b0 af fac lx gx ly gy lz gz v_7.1 v_7.2)) [0] rfl) rfl rfl) rfl rfl hl.1 rfl (lv_room (Nat.le_of_ble_eq_true rfl)) dX7_pointPart_127 ⟨Nat.le_of_ble_eq_true rfl, Nat.le_of_ble_eq_true rfl⟩) ?_
          refine lv_isub hx hb dX7_pointPart_130 ?_
          refine lv_istore (lv' := [(5, .int (a5 - v_10)), (0, .ref h0), (2, .int a2), (4, .int a4), (6, .int a6)]) hx hb dX7_pointPart_131 hl (by decide) rfl (fun ls hl => ?_)
          refine lv_iinc (v := a6 + 1) (lv' := [(6, .int (a6 + 1)), (5, .int (a5 - v_10)), (0, .ref h0), (2, .int a2), (4, .int a4)]) hx hb dX7_pointPart_133 hl (k := 4) rfl rfl (by decide) rfl (fun ls hl => ?_)
          refine lv_goto (tgt := 71) hx hb dX7_pointPart_136 (by decide) ?_
          exact ih a2 a4 (a5 - v_10) (a6 + 1) v_7.1 v_7.2 _ _ _ hF hP hD hS (lv_sub hl [2, 3, 4, 1, 0] rfl)
        · replace hF := it_n c_9 hF
          refine lv_iload_n hx hb dX7_pointPart_97 rfl (lv_at hl 1 rfl) ?_
          refine lv_if_ne (tgt := 106) hx hb dX7_pointPart_98 (by decide) (fun c_11 => ?_) (fun c_11 => ?_)
          · replace hF := it_n c_11 hF
            refine lv_iload_n hx hb dX7_pointPart_106 rfl (lv_at hl 1 rfl) ?_
            refine lv_iconst (v := 1) hx hb dX7_pointPart_107 (by decide) ?_
            refine lv_icmp_ne (tgt := 116) hx hb dX7_pointPart_108 (by decide) (fun c_12 => ?_) (fun c_12 => ?_)
            · replace hF := it_n c_12 hF
              refine lv_aload_n hx hb dX7_pointPart_116 rfl (lv_at hl 0 rfl) ?_
              refine va_get (ci := 7) (v := .int v_7.1) (C := RX7) (T := TX7) (N := 12) hx hb hts hin7 hown hK hP 0 rfl rfl 10 (by decide) hfl64 (fun _ h9 => h9) rfl dX7_pointPart_117 ?_
              refine lv_iload hx hb dX7_pointPart_120 (lv_at hl 3 rfl) ?_
              refine lv_iadd hx hb dX7_pointPart_122 ?_
              exact W.iret (v := v_7.1 + a5) hx hb hr  (fun t ht hW => ⟨⟨v_7.1 + a5, (v_7.1, v_7.2), rfl, ⟨congrArg Prod.fst (so_e hF), congrArg Prod.snd (so_e hF)⟩, qW_mk ht hP hK hW hD⟩, hS.F ht⟩) hS.2.2 dX7_pointPart_123
            · replace hF := it_p c_12 hF
              refine lv_iload hx hb dX7_pointPart_111 (lv_at hl 4 rfl) ?_
              refine lv_goto (tgt := 123) hx hb dX7_pointPart_113 (by decide) ?_
              exact W.iret (v := a6) hx hb hr  (fun t ht hW => ⟨⟨a6, (v_7.1, v_7.2), rfl, ⟨congrArg Prod.fst (so_e hF), congrArg Prod.snd (so_e hF)⟩, qW_mk ht hP hK hW hD⟩, hS.F ht⟩) hS.2.2 dX7_pointPart_123
          · replace hF := it_p c_11 hF
            refine lv_iload hx hb dX7_pointPart_101 (lv_at hl 2 rfl) ?_
            refine lv_goto (tgt := 123) hx hb dX7_pointPart_103 (by decide) ?_
            exact W.iret (v := a4) hx hb hr  (fun t ht hW => ⟨⟨a4, (v_7.1, v_7.2), rfl, ⟨congrArg Prod.fst (so_e hF), congrArg Prod.snd (so_e hF)⟩, qW_mk ht hP hK hW hD⟩, hS.F ht⟩) hS.2.2 dX7_pointPart_123
  have hJ47 : ∀ (a1 : Int32) (a2 : Int32) (a3 : Int32) (mlo : Int32) (mhi : Int32) (H : Heap) (locs : List Loc) (ls : Array Slot), JX7_pointPart_47 nf ns nb fac lx ly gy lz gz BE ss SA SB SC SE bs BA BB BC BD a1 a2 a3 mlo mhi = some res → va_P (gD G) vwCl (wSw G h0 af s0 aa ab ac ae b0 ba bb bc be nf ns nb fac lx gx ly gy lz gz mlo mhi BE ss SA SB SC SE bs BA BB BC BD) H → va_D A (wSw G h0 af s0 aa ab ac ae b0 ba bb bc be nf ns nb fac lx gx ly gy lz gz mlo mhi BE ss SA SB SC SE bs BA BB BC BD) → va_S A s.heap H locs → lv_has ls 7 [(0, .ref h0), (1, .int a1), (2, .int a2), (3, .int a3)] → W p l e (headSpec wsX7_pointPart rX7_pointPart).room s m ([.ref h0, .int p1, .int p2] : List Value).toArray below meth c H locs 0 0 (MQ below (va_Qi (fun (r : Int32) (u : Int32 × Int32) => r = res.1 ∧ u = res.2) (fun u t => qW G A (wSw G h0 af s0 aa ab ac ae b0 ba bb bc be nf ns nb fac lx gx ly gy lz gz u.1 u.2 BE ss SA SB SC SE bs BA BB BC BD) t) A) ([.ref h0, .int p1, .int p2] : List Value).toArray s 0 0 A) (F0 m 47 ls []) := by
    intro a1 a2 a3 mlo mhi H locs ls hF hP hD hS hl
    unfold JX7_pointPart_47 at hF
    refine lv_aload_n hx hb dX7_pointPart_47 rfl (lv_at hl 0 rfl) ?_
    refine va_get (ci := 7) (v := .int lx) (C := RX7) (T := TX7) (N := 12) hx hb hts hin7 hown hK hP 0 rfl rfl 3 (by decide) hfl22 (fun _ h9 => h9) rfl dX7_pointPart_48 ?_
    refine lv_iload_n hx hb dX7_pointPart_51 rfl (lv_at hl 3 rfl) ?_
    refine lv_iadd hx hb dX7_pointPart_52 ?_
    refine lv_istore (lv' := [(4, .int (lx + a3)), (0, .ref h0), (1, .int a1), (2, .int a2), (3, .int a3)]) hx hb dX7_pointPart_53 hl (by decide) rfl (fun ls hl => ?_)
    refine lv_iload_n hx hb dX7_pointPart_55 rfl (lv_at hl 2 rfl) ?_
    refine lv_aload_n hx hb dX7_pointPart_56 rfl (lv_at hl 1 rfl) ?_
    refine va_get (ci := 7) (v := .ref af) (C := RX7) (T := TX7) (N := 12) hx hb hts hin7 hown hK hP 0 rfl rfl 9 (by decide) hfl46 (fun _ h9 => h9) rfl dX7_pointPart_57 ?_
    refine lv_iload_n hx hb dX7_pointPart_60 rfl (lv_at hl 4 rfl) ?_
    obtain ⟨hi_5, hF⟩ := gd_in_s hF
    refine va_iald hx hb hK hP 1 0 rfl rfl hi_5 dX7_pointPart_61 ?_
    refine lv_isub hx hb dX7_pointPart_62 ?_
    refine lv_istore (lv' := [(5, .int (a1 - (BE a3.toNatClampNeg))), (4, .int (lx + a3)), (0, .ref h0), (1, .int a1), (2, .int a2), (3, .int a3)]) hx hb dX7_pointPart_63 hl (by decide) rfl (fun ls hl => ?_)
    refine lv_aload_n hx hb dX7_pointPart_65 rfl (lv_at hl 2 rfl) ?_
    refine va_get (ci := 7) (v := .int ly) (C := RX7) (T := TX7) (N := 12) hx hb hts hin7 hown hK hP 0 rfl rfl 5 (by decide) hfl28 (fun _ h9 => h9) rfl dX7_pointPart_66 ?_
    refine lv_istore (lv' := [(6, .int ly), (5, .int (a1 - (BE a3.toNatClampNeg))), (4, .int (lx + a3)), (0, .ref h0), (1, .int a1), (2, .int a2), (3, .int a3)]) hx hb dX7_pointPart_69 hl (by decide) rfl (fun ls hl => ?_)
    exact hL71 FU a2 (lx + a3) (a1 - (BE a3.toNatClampNeg)) ly mlo mhi _ _ _ hF hP hD hS (lv_sub hl [3, 5, 2, 1, 0] rfl)
  have hL18 : ∀ (k : Nat), ∀ (a1 : Int32) (a2 : Int32) (a3 : Int32) (mlo : Int32) (mhi : Int32) (H : Heap) (locs : List Loc) (ls : Array Slot), LX7_pointPart_18 nf ns nb fac lx ly gy lz gz BE ss SA SB SC SE bs BA BB BC BD k a1 a2 a3 mlo mhi = some res → va_P (gD G) vwCl (wSw G h0 af s0 aa ab ac ae b0 ba bb bc be nf ns nb fac lx gx ly gy lz gz mlo mhi BE ss SA SB SC SE bs BA BB BC BD) H → va_D A (wSw G h0 af s0 aa ab ac ae b0 ba bb bc be nf ns nb fac lx gx ly gy lz gz mlo mhi BE ss SA SB SC SE bs BA BB BC BD) → va_S A s.heap H locs → lv_has ls 7 [(0, .ref h0), (1, .int a1), (2, .int a2), (3, .int a3)] → W p l e (headSpec wsX7_pointPart rX7_pointPart).room s m ([.ref h0, .int p1, .int p2] : List Value).toArray below meth c H locs 0 0 (MQ below (va_Qi (fun (r : Int32) (u : Int32 × Int32) => r = res.1 ∧ u = res.2) (fun u t => qW G A (wSw G h0 af s0 aa ab ac ae b0 ba bb bc be nf ns nb fac lx gx ly gy lz gz u.1 u.2 BE ss SA SB SC SE bs BA BB BC BD) t) A) ([.ref h0, .int p1, .int p2] : List Value).toArray s 0 0 A) (F0 m 18 ls []) := by
    intro k
    induction k with
    | zero =>
      intro a1 a2 a3 mlo mhi H locs ls hF hP hD hS hl
      rw [LX7_pointPart_18] at hF
      cases hF
    | succ k ih =>
      intro a1 a2 a3 mlo mhi H locs ls hF hP hD hS hl
      rw [LX7_pointPart_18] at hF
      refine lv_iload_n hx hb dX7_pointPart_18 rfl (lv_at hl 3 rfl) ?_
      refine lv_iconst (v := 2) hx hb dX7_pointPart_19 (by decide) ?_
      refine lv_iadd hx hb dX7_pointPart_20 ?_
      refine lv_aload_n hx hb dX7_pointPart_21 rfl (lv_at hl 0 rfl) ?_
      refine va_get (ci := 7) (v := .ref af) (C := RX7) (T := TX7) (N := 12) hx hb hts hin7 hown hK hP 0 rfl rfl 9 (by decide) hfl46 (fun _ h9 => h9) rfl dX7_pointPart_22 ?_
      refine va_alen (v := nI nf) hx hb hK hP 1 0 rfl rfl rfl dX7_pointPart_25 ?_
      refine lv_icmp_ge (tgt := 47) hx hb dX7_pointPart_26 (by decide) (fun c_4 => ?_) (fun c_4 => ?_)
      · replace hF := it_p c_4 hF
        exact hJ47 a1 a2 a3 mlo mhi _ _ _ hF hP hD hS (lv_sub hl [0, 1, 2, 3] rfl)
      · replace hF := it_n c_4 hF
        refine lv_aload_n hx hb dX7_pointPart_29 rfl (lv_at hl 0 rfl) ?_
        refine va_get (ci := 7) (v := .ref af) (C := RX7) (T := TX7) (N := 12) hx hb hts hin7 hown hK hP 0 rfl rfl 9 (by decide) hfl46 (fun _ h9 => h9) rfl dX7_pointPart_30 ?_
        refine lv_iload_n hx hb dX7_pointPart_33 rfl (lv_at hl 3 rfl) ?_
        refine lv_iconst (v := 1) hx hb dX7_pointPart_34 (by decide) ?_
        refine lv_iadd hx hb dX7_pointPart_35 ?_
        obtain ⟨hi_13, hF⟩ := gd_in_s hF
        refine va_iald hx hb hK hP 1 0 rfl rfl hi_13 dX7_pointPart_36 ?_
        refine lv_iload_n hx hb dX7_pointPart_37 rfl (lv_at hl 1 rfl) ?_
        refine lv_icmp_gt (tgt := 47) hx hb dX7_pointPart_38 (by decide) (fun c_14 => ?_) (fun c_14 => ?_)
        · replace hF := it_p c_14 hF
          exact hJ47 a1 a2 a3 mlo mhi _ _ _ hF hP hD hS (lv_sub hl [0, 1, 2, 3] rfl)
        · replace hF := it_n c_14 hF
          refine lv_iinc (v := a3 + 1) (lv' := [(3, .int (a3 + 1)), (0, .ref h0), (1, .int a1), (2, .int a2)]) hx hb dX7_pointPart_41 hl (k := 3) rfl rfl (by decide) rfl (fun ls hl => ?_)
          refine lv_goto (tgt := 18) hx hb dX7_pointPart_44 (by decide) ?_
          exact ih a1 a2 (a3 + 1) mlo mhi _ _ _ hF hP hD hS (lv_sub hl [1, 2, 3, 0] rfl)
  unfold fX7_pointPart at hF
  refine lv_iload_n hx hb dX7_pointPart_0 rfl (lv_at hl 1 rfl) ?_
  refine lv_if_lt (tgt := 12) hx hb dX7_pointPart_1 (by decide) (fun c_1 => ?_) (fun c_1 => ?_)
  · replace hF := it_p c_1 hF
    refine lv_sipush (v := 10000) hx hb dX7_pointPart_12 (by decide) ?_
    exact W.iret (v := 10000) hx hb hr  (fun t ht hW => ⟨⟨10000, (lo, hi), rfl, ⟨congrArg Prod.fst (so_e hF), congrArg Prod.snd (so_e hF)⟩, qW_mk ht hP hK hW hD⟩, hS.F ht⟩) hS.2.2 dX7_pointPart_15
  · replace hF := it_n c_1 hF
    refine lv_iload_n hx hb dX7_pointPart_4 rfl (lv_at hl 1 rfl) ?_
    refine lv_aload_n hx hb dX7_pointPart_5 rfl (lv_at hl 0 rfl) ?_
    obtain ⟨v_2, hv_2, hF⟩ := bd_s hF
    refine ro_ie (va_runV (As := []) (rest := [.int p1]) ⟨hx, hb, hml, hown, hts⟩ (kX7_total l G h0 af s0 b0 nf fac lx gx ly gy lz gz lo hi BE v_2 hv_2) (cwV 0 hts gX7_pointPart_X7_total rfl rfl rfl (by decide +kernel) ⟨Nat.le_of_ble_eq_true rfl, Nat.le_of_ble_eq_true rfl⟩) (pvR (q0 := 0) 7 hK (hP.sub (ws' := (wSwT G h0 af s0 b0 nf fac lx gx ly gy lz gz lo hi BE)) [0, 1] rfl) rfl rfl) rfl rfl hl.1 rfl (lv_room (Nat.le_of_ble_eq_true rfl)) dX7_pointPart_6 ⟨Nat.le_of_ble_eq_true rfl, Nat.le_of_ble_eq_true rfl⟩) ?_
    refine lv_icmp_lt (tgt := 16) hx hb dX7_pointPart_9 (by decide) (fun c_3 => ?_) (fun c_3 => ?_)
    · replace hF := it_p c_3 hF
      refine lv_iconst (v := 0) hx hb dX7_pointPart_16 (by decide) ?_
      refine lv_istore_n (lv' := [(3, .int 0), (0, .ref h0), (1, .int p1), (2, .int p2)]) hx hb dX7_pointPart_17 rfl hl (by decide) rfl (fun ls hl => ?_)
      exact hL18 FU p1 p2 0 lo hi _ _ _ hF hP hD hS (lv_sub hl [1, 2, 3, 0] rfl)
    · replace hF := it_n c_3 hF
      refine lv_sipush (v := 10000) hx hb dX7_pointPart_12 (by decide) ?_
      exact W.iret (v := 10000) hx hb hr  (fun t ht hW => ⟨⟨10000, (lo, hi), rfl, ⟨congrArg Prod.fst (so_e hF), congrArg Prod.snd (so_e hF)⟩, qW_mk ht hP hK hW hD⟩, hS.F ht⟩) hS.2.2 dX7_pointPart_15
def fX7_rankOf (nf : Nat) (ns : Nat) (nb : Nat) (fac : Int32) (lx : Int32) (gx : Int32) (ly : Int32) (gy : Int32) (lz : Int32) (gz : Int32) (lo : Int32) (hi : Int32) (BE : Nat → Int32) (ss : Int32) (SA : Nat → Int32) (SB : Nat → Int32) (SC : Nat → Int32) (SE : Nat → Int32) (bs : Int32) (BA : Nat → Int32) (BB : Nat → Int32) (BC : Nat → Int32) (BD : Nat → Int32) (p1 : Int32) (p2 : Int32) (p3 : Int32) : Option (Int32 × Int32 × Int32) :=
  (if p1 < lx then (some ((-4), lo, hi)) else (if gx < p1 then (some ((-4), lo, hi)) else (if p2 < ly then (some ((-4), lo, hi)) else (if p2 ≤ gy then (gd_in (p1 - lx) nf (bd (fX7_pointsBelow ns nb fac ly gy lz gz lo hi ss SA SB SC SE bs BA BB BC BD p1 p2) (fun v_6 => (bd (fX7_look ns nb fac lz gz v_6.2.1 v_6.2.2 ss SA SB SC SE bs BA BB BC BD p1 p2) (fun v_7 => (if p3 < v_7.1 then (some ((-4), v_7.1, v_7.2)) else (if v_7.2 < p3 then (some ((-4), v_7.1, v_7.2)) else (some ((((BE (p1 - lx).toNatClampNeg) + v_6.1) + p3) - v_7.1, v_7.1, v_7.2))))))))) else (some ((-4), lo, hi))))))
abbrev rX7_rankOf : Room := { frames := 4, cells := 0, slots := 0, locals := 92 }
set_option maxHeartbeats 40000000 in
set_option maxRecDepth 100000 in
theorem kX7_rankOf (l : Launch) (G : GT) (h0 af s0 aa ab ac ae b0 ba bb bc be : Nat) (sz : Nat) (nf ns nb : Nat) (fac : Int32) (lx : Int32) (gx : Int32) (ly : Int32) (gy : Int32) (lz : Int32) (gz : Int32) (lo : Int32) (hi : Int32) (BE : Nat → Int32) (ss : Int32) (SA : Nat → Int32) (SB : Nat → Int32) (SC : Nat → Int32) (SE : Nat → Int32) (bs : Int32) (BA : Nat → Int32) (BB : Nat → Int32) (BC : Nat → Int32) (BD : Nat → Int32) (p1 : Int32) (p2 : Int32) (p3 : Int32) (res : Int32 × Int32 × Int32) (hF : fX7_rankOf nf ns nb fac lx gx ly gy lz gz lo hi BE ss SA SB SC SE bs BA BB BC BD p1 p2 p3 = some res) : Met l yX7_rankOf wsX7_rankOf rX7_rankOf (va_Pc [.ref h0, .int p1, .int p2, .int p3] (pW G sz (wSw G h0 af s0 aa ab ac ae b0 ba bb bc be nf ns nb fac lx gx ly gy lz gz lo hi BE ss SA SB SC SE bs BA BB BC BD))) (va_Qi (fun (r : Int32) (u : Int32 × Int32) => r = res.1 ∧ u = res.2) (fun u t => qW G (va_A (wSw G h0 af s0 aa ab ac ae b0 ba bb bc be nf ns nb fac lx gx ly gy lz gz lo hi BE ss SA SB SC SE bs BA BB BC BD) sz) (wSw G h0 af s0 aa ab ac ae b0 ba bb bc be nf ns nb fac lx gx ly gy lz gz u.1 u.2 BE ss SA SB SC SE bs BA BB BC BD) t) (va_A (wSw G h0 af s0 aa ab ac ae b0 ba bb bc be nf ns nb fac lx gx ly gy lz gz lo hi BE ss SA SB SC SE bs BA BB BC BD) sz)) 0 0 (va_A (wSw G h0 af s0 aa ab ac ae b0 ba bb bc be nf ns nb fac lx gx ly gy lz gz lo hi BE ss SA SB SC SE bs BA BB BC BD) sz) := by
  refine Met.ofW (cc := cX7_rankOf) (maxL := 5) (ret := (some .int)) (by decide) rfl ?_
  intro p e s m args below meth c s₁ B hml hv
  obtain ⟨rfl, hsz, hP, hK, hD0⟩ := hv
  have hx := B.exec
  have hb := B.bytes
  have hr := B.returns
  have hts := atoms_spec (ws := wsX7_rankOf) B.pre
  have hown : s.vm.findClass RX7 = some m.cls := findClass_of_methodNamed B.named
  have hlocks := B.notSynchronized
  subst hsz
  have hD := hD0.self (sz := s.heap.size)
  generalize hAe : va_A (wSw G h0 af s0 aa ab ac ae b0 ba bb bc be nf ns nb fac lx gx ly gy lz gz lo hi BE ss SA SB SC SE bs BA BB BC BD) s.heap.size = A at hD ⊢
  have hA : ∀ q : Nat, s.heap.size ≤ q → A q := fun q h => by rw [← hAe]; exact Or.inr h
  have hS : va_S A s.heap s.heap [] := va_S.rf
  have hin7 : ∀ w ∈ u_ws RX7 TX7 12, w ∈ wsX7_rankOf := by decide +kernel
  have hfl22 := hts (.fieldLink RX7 22 "SwellBodies$Swelling" "leastX" "I") (by decide +kernel)
  have hfl25 := hts (.fieldLink RX7 25 "SwellBodies$Swelling" "greatestX" "I") (by decide +kernel)
  have hfl28 := hts (.fieldLink RX7 28 "SwellBodies$Swelling" "leastY" "I") (by decide +kernel)
  have hfl31 := hts (.fieldLink RX7 31 "SwellBodies$Swelling" "greatestY" "I") (by decide +kernel)
  have hfl46 := hts (.fieldLink RX7 46 "SwellBodies$Swelling" "before" "[I") (by decide +kernel)
  have hfl64 := hts (.fieldLink RX7 64 "SwellBodies$Swelling" "low" "I") (by decide +kernel)
  have hfl61 := hts (.fieldLink RX7 61 "SwellBodies$Swelling" "high" "I") (by decide +kernel)
  have hl := lv_entry ([.ref h0, .int p1, .int p2, .int p3]) (n := 5) (Nat.le_of_ble_eq_true rfl)
  rw [lg_entry_eq]
  generalize (lg_sl ([.ref h0, .int p1, .int p2, .int p3]) ++ List.replicate (5 - (lg_sl ([.ref h0, .int p1, .int p2, .int p3])).length) Slot.unset).toArray = ls at hl ⊢
  have hl : lv_has ls 5 [(0, .ref h0), (1, .int p1), (2, .int p2), (3, .int p3)] := hl
  unfold fX7_rankOf at hF
  refine lv_iload_n hx hb dX7_rankOf_0 rfl (lv_at hl 1 rfl) ?_
  refine lv_aload_n hx hb dX7_rankOf_1 rfl (lv_at hl 0 rfl) ?_
  refine va_get (ci := 7) (v := .int lx) (C := RX7) (T := TX7) (N := 12) hx hb hts hin7 hown hK hP 0 rfl rfl 3 (by decide) hfl22 (fun _ h9 => h9) rfl dX7_rankOf_2 ?_
  refine lv_icmp_lt (tgt := 32) hx hb dX7_rankOf_5 (by decide) (fun c_1 => ?_) (fun c_1 => ?_)
  · replace hF := it_p c_1 hF
    refine lv_bipush (v := (-4)) hx hb dX7_rankOf_32 (by decide) ?_
    exact W.iret (v := (-4)) hx hb hr  (fun t ht hW => ⟨⟨(-4), (lo, hi), rfl, ⟨congrArg Prod.fst (so_e hF), congrArg Prod.snd (so_e hF)⟩, qW_mk ht hP hK hW hD⟩, hS.F ht⟩) hS.2.2 dX7_rankOf_34
  · replace hF := it_n c_1 hF
    refine lv_iload_n hx hb dX7_rankOf_8 rfl (lv_at hl 1 rfl) ?_
    refine lv_aload_n hx hb dX7_rankOf_9 rfl (lv_at hl 0 rfl) ?_
    refine va_get (ci := 7) (v := .int gx) (C := RX7) (T := TX7) (N := 12) hx hb hts hin7 hown hK hP 0 rfl rfl 4 (by decide) hfl25 (fun _ h9 => h9) rfl dX7_rankOf_10 ?_
    refine lv_icmp_gt (tgt := 32) hx hb dX7_rankOf_13 (by decide) (fun c_2 => ?_) (fun c_2 => ?_)
    · replace hF := it_p c_2 hF
      refine lv_bipush (v := (-4)) hx hb dX7_rankOf_32 (by decide) ?_
      exact W.iret (v := (-4)) hx hb hr  (fun t ht hW => ⟨⟨(-4), (lo, hi), rfl, ⟨congrArg Prod.fst (so_e hF), congrArg Prod.snd (so_e hF)⟩, qW_mk ht hP hK hW hD⟩, hS.F ht⟩) hS.2.2 dX7_rankOf_34
    · replace hF := it_n c_2 hF
      refine lv_iload_n hx hb dX7_rankOf_16 rfl (lv_at hl 2 rfl) ?_
      refine lv_aload_n hx hb dX7_rankOf_17 rfl (lv_at hl 0 rfl) ?_
      refine va_get (ci := 7) (v := .int ly) (C := RX7) (T := TX7) (N := 12) hx hb hts hin7 hown hK hP 0 rfl rfl 5 (by decide) hfl28 (fun _ h9 => h9) rfl dX7_rankOf_18 ?_
      refine lv_icmp_lt (tgt := 32) hx hb dX7_rankOf_21 (by decide) (fun c_3 => ?_) (fun c_3 => ?_)
      · replace hF := it_p c_3 hF
        refine lv_bipush (v := (-4)) hx hb dX7_rankOf_32 (by decide) ?_
        exact W.iret (v := (-4)) hx hb hr  (fun t ht hW => ⟨⟨(-4), (lo, hi), rfl, ⟨congrArg Prod.fst (so_e hF), congrArg Prod.snd (so_e hF)⟩, qW_mk ht hP hK hW hD⟩, hS.F ht⟩) hS.2.2 dX7_rankOf_34
      · replace hF := it_n c_3 hF
        refine lv_iload_n hx hb dX7_rankOf_24 rfl (lv_at hl 2 rfl) ?_
        refine lv_aload_n hx hb dX7_rankOf_25 rfl (lv_at hl 0 rfl) ?_
        refine va_get (ci := 7) (v := .int gy) (C := RX7) (T := TX7) (N := 12) hx hb hts hin7 hown hK hP 0 rfl rfl 6 (by decide) hfl31 (fun _ h9 => h9) rfl dX7_rankOf_26 ?_
        refine lv_icmp_le (tgt := 35) hx hb dX7_rankOf_29 (by decide) (fun c_4 => ?_) (fun c_4 => ?_)
        · replace hF := it_p c_4 hF
          refine lv_aload_n hx hb dX7_rankOf_35 rfl (lv_at hl 0 rfl) ?_
          refine va_get (ci := 7) (v := .ref af) (C := RX7) (T := TX7) (N := 12) hx hb hts hin7 hown hK hP 0 rfl rfl 9 (by decide) hfl46 (fun _ h9 => h9) rfl dX7_rankOf_36 ?_
          refine lv_iload_n hx hb dX7_rankOf_39 rfl (lv_at hl 1 rfl) ?_
          refine lv_aload_n hx hb dX7_rankOf_40 rfl (lv_at hl 0 rfl) ?_
          refine va_get (ci := 7) (v := .int lx) (C := RX7) (T := TX7) (N := 12) hx hb hts hin7 hown hK hP 0 rfl rfl 3 (by decide) hfl22 (fun _ h9 => h9) rfl dX7_rankOf_41 ?_
          refine lv_isub hx hb dX7_rankOf_44 ?_
          obtain ⟨hi_5, hF⟩ := gd_in_s hF
          refine va_iald hx hb hK hP 1 0 rfl rfl hi_5 dX7_rankOf_45 ?_
          refine lv_aload_n hx hb dX7_rankOf_46 rfl (lv_at hl 0 rfl) ?_
          refine lv_iload_n hx hb dX7_rankOf_47 rfl (lv_at hl 1 rfl) ?_
          refine lv_iload_n hx hb dX7_rankOf_48 rfl (lv_at hl 2 rfl) ?_
          obtain ⟨v_6, hv_6, hF⟩ := bd_s hF
          refine rw_ie (wf := (fun (u : Int32 × Int32) => (wSw G h0 af s0 aa ab ac ae b0 ba bb bc be nf ns nb fac lx gx ly gy lz gz u.1 u.2 BE ss SA SB SC SE bs BA BB BC BD))) (wr := []) (va_runV (As := [.int p1, .int p2]) (rest := [.int (BE (p1 - lx).toNatClampNeg)]) ⟨hx, hb, hml, hown, hts⟩ (kX7_pointsBelow l G h0 af s0 aa ab ac ae b0 ba bb bc be s.heap.size nf ns nb fac lx gx ly gy lz gz lo hi BE ss SA SB SC SE bs BA BB BC BD p1 p2 v_6 hv_6) (cwV 2 hts gX7_rankOf_X7_pointsBelow rfl rfl rfl (by decide +kernel) ⟨Nat.le_of_ble_eq_true rfl, Nat.le_of_ble_eq_true rfl⟩) (pvW (q0 := 0) 7 hK (hP.sub (ws' := (wSw G h0 af s0 aa ab ac ae b0 ba bb bc be nf ns nb fac lx gx ly gy lz gz lo hi BE ss SA SB SC SE bs BA BB BC BD)) [0, 1, 2, 3, 4, 5, 6, 7, 8, 9, 10, 11] rfl) (hD.sub (ws' := (wSw G h0 af s0 aa ab ac ae b0 ba bb bc be nf ns nb fac lx gx ly gy lz gz lo hi BE ss SA SB SC SE bs BA BB BC BD)) [0, 1, 2, 3, 4, 5, 6, 7, 8, 9, 10, 11] (by decide) rfl) rfl rfl) rfl rfl hl.1 rfl (lv_room (Nat.le_of_ble_eq_true rfl)) dX7_rankOf_49 ⟨Nat.le_of_ble_eq_true rfl, Nat.le_of_ble_eq_true rfl⟩) hP hD hS hA [0, 1, 2, 3, 4, 5, 6, 7, 8, 9, 10, 11] [] rfl rfl (by decide) (by decide) (fun H locs  hP hD hS => ?_)
          have hP : va_P (gD G) vwCl (wSw G h0 af s0 aa ab ac ae b0 ba bb bc be nf ns nb fac lx gx ly gy lz gz v_6.2.1 v_6.2.2 BE ss SA SB SC SE bs BA BB BC BD) H := hP.sub [0, 1, 2, 3, 4, 5, 6, 7, 8, 9, 10, 11] rfl
          have hD : va_D A (wSw G h0 af s0 aa ab ac ae b0 ba bb bc be nf ns nb fac lx gx ly gy lz gz v_6.2.1 v_6.2.2 BE ss SA SB SC SE bs BA BB BC BD) := hD.sub [0, 1, 2, 3, 4, 5, 6, 7, 8, 9, 10, 11] (by decide) rfl
          refine lv_iadd hx hb dX7_rankOf_52 ?_
          refine lv_istore (lv' := [(4, .int ((BE (p1 - lx).toNatClampNeg) + v_6.1)), (0, .ref h0), (1, .int p1), (2, .int p2), (3, .int p3)]) hx hb dX7_rankOf_53 hl (by decide) rfl (fun ls hl => ?_)
          refine lv_aload_n hx hb dX7_rankOf_55 rfl (lv_at hl 1 rfl) ?_
          refine lv_iload_n hx hb dX7_rankOf_56 rfl (lv_at hl 2 rfl) ?_
          refine lv_iload_n hx hb dX7_rankOf_57 rfl (lv_at hl 3 rfl) ?_
          obtain ⟨v_7, hv_7, hF⟩ := bd_s hF
          refine rw_ve (wf := (fun (u : Int32 × Int32) => (wSw G h0 af s0 aa ab ac ae b0 ba bb bc be nf ns nb fac lx gx ly gy lz gz u.1 u.2 BE ss SA SB SC SE bs BA BB BC BD))) (wr := []) (va_runV (As := [.int p1, .int p2]) (rest := []) ⟨hx, hb, hml, hown, hts⟩ (kX7_look l G h0 af s0 aa ab ac ae b0 ba bb bc be H.size nf ns nb fac lx gx ly gy lz gz v_6.2.1 v_6.2.2 BE ss SA SB SC SE bs BA BB BC BD p1 p2 v_7 hv_7) (cwV 2 hts gX7_rankOf_X7_look rfl rfl rfl (by decide +kernel) ⟨Nat.le_of_ble_eq_true rfl, Nat.le_of_ble_eq_true rfl⟩) (pvW (q0 := 0) 7 hK (hP.sub (ws' := (wSw G h0 af s0 aa ab ac ae b0 ba bb bc be nf ns nb fac lx gx ly gy lz gz v_6.2.1 v_6.2.2 BE ss SA SB SC SE bs BA BB BC BD)) [0, 1, 2, 3, 4, 5, 6, 7, 8, 9, 10, 11] rfl) (hD.sub (ws' := (wSw G h0 af s0 aa ab ac ae b0 ba bb bc be nf ns nb fac lx gx ly gy lz gz v_6.2.1 v_6.2.2 BE ss SA SB SC SE bs BA BB BC BD)) [0, 1, 2, 3, 4, 5, 6, 7, 8, 9, 10, 11] (by decide) rfl) rfl rfl) rfl rfl hl.1 rfl (lv_room (Nat.le_of_ble_eq_true rfl)) dX7_rankOf_58 ⟨Nat.le_of_ble_eq_true rfl, Nat.le_of_ble_eq_true rfl⟩) hP hD hS hA [0, 1, 2, 3, 4, 5, 6, 7, 8, 9, 10, 11] [] rfl rfl (by decide) (by decide) (fun H locs  hP hD hS => ?_)
          have hP : va_P (gD G) vwCl (wSw G h0 af s0 aa ab ac ae b0 ba bb bc be nf ns nb fac lx gx ly gy lz gz v_7.1 v_7.2 BE ss SA SB SC SE bs BA BB BC BD) H := hP.sub [0, 1, 2, 3, 4, 5, 6, 7, 8, 9, 10, 11] rfl
          have hD : va_D A (wSw G h0 af s0 aa ab ac ae b0 ba bb bc be nf ns nb fac lx gx ly gy lz gz v_7.1 v_7.2 BE ss SA SB SC SE bs BA BB BC BD) := hD.sub [0, 1, 2, 3, 4, 5, 6, 7, 8, 9, 10, 11] (by decide) rfl
          refine lv_iload_n hx hb dX7_rankOf_61 rfl (lv_at hl 4 rfl) ?_
          refine lv_aload_n hx hb dX7_rankOf_62 rfl (lv_at hl 1 rfl) ?_
          refine va_get (ci := 7) (v := .int v_7.1) (C := RX7) (T := TX7) (N := 12) hx hb hts hin7 hown hK hP 0 rfl rfl 10 (by decide) hfl64 (fun _ h9 => h9) rfl dX7_rankOf_63 ?_
          refine lv_icmp_lt (tgt := 89) hx hb dX7_rankOf_66 (by decide) (fun c_8 => ?_) (fun c_8 => ?_)
          · replace hF := it_p c_8 hF
            refine lv_bipush (v := (-4)) hx hb dX7_rankOf_89 (by decide) ?_
            exact W.iret (v := (-4)) hx hb hr  (fun t ht hW => ⟨⟨(-4), (v_7.1, v_7.2), rfl, ⟨congrArg Prod.fst (so_e hF), congrArg Prod.snd (so_e hF)⟩, qW_mk ht hP hK hW hD⟩, hS.F ht⟩) hS.2.2 dX7_rankOf_91
          · replace hF := it_n c_8 hF
            refine lv_iload_n hx hb dX7_rankOf_69 rfl (lv_at hl 4 rfl) ?_
            refine lv_aload_n hx hb dX7_rankOf_70 rfl (lv_at hl 1 rfl) ?_
            refine va_get (ci := 7) (v := .int v_7.2) (C := RX7) (T := TX7) (N := 12) hx hb hts hin7 hown hK hP 0 rfl rfl 11 (by decide) hfl61 (fun _ h9 => h9) rfl dX7_rankOf_71 ?_
            refine lv_icmp_gt (tgt := 89) hx hb dX7_rankOf_74 (by decide) (fun c_9 => ?_) (fun c_9 => ?_)
            · replace hF := it_p c_9 hF
              refine lv_bipush (v := (-4)) hx hb dX7_rankOf_89 (by decide) ?_
              exact W.iret (v := (-4)) hx hb hr  (fun t ht hW => ⟨⟨(-4), (v_7.1, v_7.2), rfl, ⟨congrArg Prod.fst (so_e hF), congrArg Prod.snd (so_e hF)⟩, qW_mk ht hP hK hW hD⟩, hS.F ht⟩) hS.2.2 dX7_rankOf_91
            · replace hF := it_n c_9 hF
              refine lv_iload hx hb dX7_rankOf_77 (lv_at hl 0 rfl) ?_
              refine lv_iload_n hx hb dX7_rankOf_79 rfl (lv_at hl 4 rfl) ?_
              refine lv_iadd hx hb dX7_rankOf_80 ?_
              refine lv_aload_n hx hb dX7_rankOf_81 rfl (lv_at hl 1 rfl) ?_
              refine va_get (ci := 7) (v := .int v_7.1) (C := RX7) (T := TX7) (N := 12) hx hb hts hin7 hown hK hP 0 rfl rfl 10 (by decide) hfl64 (fun _ h9 => h9) rfl dX7_rankOf_82 ?_
              refine lv_isub hx hb dX7_rankOf_85 ?_
              refine lv_goto (tgt := 91) hx hb dX7_rankOf_86 (by decide) ?_
              exact W.iret (v := (((BE (p1 - lx).toNatClampNeg) + v_6.1) + p3) - v_7.1) hx hb hr  (fun t ht hW => ⟨⟨(((BE (p1 - lx).toNatClampNeg) + v_6.1) + p3) - v_7.1, (v_7.1, v_7.2), rfl, ⟨congrArg Prod.fst (so_e hF), congrArg Prod.snd (so_e hF)⟩, qW_mk ht hP hK hW hD⟩, hS.F ht⟩) hS.2.2 dX7_rankOf_91
        · replace hF := it_n c_4 hF
          refine lv_bipush (v := (-4)) hx hb dX7_rankOf_32 (by decide) ?_
          exact W.iret (v := (-4)) hx hb hr  (fun t ht hW => ⟨⟨(-4), (lo, hi), rfl, ⟨congrArg Prod.fst (so_e hF), congrArg Prod.snd (so_e hF)⟩, qW_mk ht hP hK hW hD⟩, hS.F ht⟩) hS.2.2 dX7_rankOf_34
def JX7_gather_98 (ns : Nat) (nb : Nat) (n2 : Nat) (fac : Int32) (lx : Int32) (gx : Int32) (ly : Int32) (gy : Int32) (lz : Int32) (gz : Int32) (ss : Int32) (SA : Nat → Int32) (SB : Nat → Int32) (SC : Nat → Int32) (SE : Nat → Int32) (bs : Int32) (BA : Nat → Int32) (BB : Nat → Int32) (BC : Nat → Int32) (BD : Nat → Int32) (k68 : Int32 → Int32 → Int32 → Int32 → Int32 → Int32 → Int32 → Int32 → (Nat → Int32) → (Nat → Int32) → (Nat → Int32) → Option (Int32 × Int32 × Int32 × (Nat → Int32) × (Nat → Int32) × (Nat → Int32))) (k104 : Int32 → Int32 → Int32 → Int32 → Int32 → Int32 → Int32 → (Nat → Int32) → (Nat → Int32) → (Nat → Int32) → Option (Int32 × Int32 × Int32 × (Nat → Int32) × (Nat → Int32) × (Nat → Int32))) (a2 : Int32) (a3 : Int32) (a4 : Int32) (a5 : Int32) (a6 : Int32) (mlo : Int32) (mhi : Int32) (msz1 : Int32) (mU : Nat → Int32) (mV : Nat → Int32) (mT : Nat → Int32) : Option (Int32 × Int32 × Int32 × (Nat → Int32) × (Nat → Int32) × (Nat → Int32)) :=
  (k68 a2 a3 a4 a5 (a6 + 1) mlo mhi msz1 mU mV mT)
def JX7_gather_88 (ns : Nat) (nb : Nat) (n2 : Nat) (fac : Int32) (lx : Int32) (gx : Int32) (ly : Int32) (gy : Int32) (lz : Int32) (gz : Int32) (ss : Int32) (SA : Nat → Int32) (SB : Nat → Int32) (SC : Nat → Int32) (SE : Nat → Int32) (bs : Int32) (BA : Nat → Int32) (BB : Nat → Int32) (BC : Nat → Int32) (BD : Nat → Int32) (k68 : Int32 → Int32 → Int32 → Int32 → Int32 → Int32 → Int32 → Int32 → (Nat → Int32) → (Nat → Int32) → (Nat → Int32) → Option (Int32 × Int32 × Int32 × (Nat → Int32) × (Nat → Int32) × (Nat → Int32))) (k104 : Int32 → Int32 → Int32 → Int32 → Int32 → Int32 → Int32 → (Nat → Int32) → (Nat → Int32) → (Nat → Int32) → Option (Int32 × Int32 × Int32 × (Nat → Int32) × (Nat → Int32) × (Nat → Int32))) (a2 : Int32) (a3 : Int32) (a4 : Int32) (a5 : Int32) (a6 : Int32) (mlo : Int32) (mhi : Int32) (msz1 : Int32) (mU : Nat → Int32) (mV : Nat → Int32) (mT : Nat → Int32) : Option (Int32 × Int32 × Int32 × (Nat → Int32) × (Nat → Int32) × (Nat → Int32)) :=
  (bd (fX4_put n2 msz1 mU mV mT a4 a5 a6) (fun v_8 => (JX7_gather_98 ns nb n2 fac lx gx ly gy lz gz ss SA SB SC SE bs BA BB BC BD k68 k104 a2 a3 a4 a5 a6 mlo mhi v_8.1 v_8.2.1 v_8.2.2.1 v_8.2.2.2)))
def LX7_gather_68 (ns : Nat) (nb : Nat) (n2 : Nat) (fac : Int32) (lx : Int32) (gx : Int32) (ly : Int32) (gy : Int32) (lz : Int32) (gz : Int32) (ss : Int32) (SA : Nat → Int32) (SB : Nat → Int32) (SC : Nat → Int32) (SE : Nat → Int32) (bs : Int32) (BA : Nat → Int32) (BB : Nat → Int32) (BC : Nat → Int32) (BD : Nat → Int32) (k104 : Int32 → Int32 → Int32 → Int32 → Int32 → Int32 → Int32 → (Nat → Int32) → (Nat → Int32) → (Nat → Int32) → Option (Int32 × Int32 × Int32 × (Nat → Int32) × (Nat → Int32) × (Nat → Int32))) : Nat → Int32 → Int32 → Int32 → Int32 → Int32 → Int32 → Int32 → Int32 → (Nat → Int32) → (Nat → Int32) → (Nat → Int32) → Option (Int32 × Int32 × Int32 × (Nat → Int32) × (Nat → Int32) × (Nat → Int32))
  | 0, _, _, _, _, _, _, _, _, _, _, _ => none
  | k + 1, a2, a3, a4, a5, a6, mlo, mhi, msz1, mU, mV, mT =>
  (if mhi < a6 then (k104 a2 a3 a4 a5 mlo mhi msz1 mU mV mT) else (if a2 = 2 then (if a6 = a3 then (JX7_gather_88 ns nb n2 fac lx gx ly gy lz gz ss SA SB SC SE bs BA BB BC BD (LX7_gather_68 ns nb n2 fac lx gx ly gy lz gz ss SA SB SC SE bs BA BB BC BD k104 k) k104 a2 a3 a4 a5 a6 mlo mhi msz1 mU mV mT) else (JX7_gather_98 ns nb n2 fac lx gx ly gy lz gz ss SA SB SC SE bs BA BB BC BD (LX7_gather_68 ns nb n2 fac lx gx ly gy lz gz ss SA SB SC SE bs BA BB BC BD k104 k) k104 a2 a3 a4 a5 a6 mlo mhi msz1 mU mV mT)) else (JX7_gather_88 ns nb n2 fac lx gx ly gy lz gz ss SA SB SC SE bs BA BB BC BD (LX7_gather_68 ns nb n2 fac lx gx ly gy lz gz ss SA SB SC SE bs BA BB BC BD k104 k) k104 a2 a3 a4 a5 a6 mlo mhi msz1 mU mV mT)))
def JX7_gather_104 (ns : Nat) (nb : Nat) (n2 : Nat) (fac : Int32) (lx : Int32) (gx : Int32) (ly : Int32) (gy : Int32) (lz : Int32) (gz : Int32) (ss : Int32) (SA : Nat → Int32) (SB : Nat → Int32) (SC : Nat → Int32) (SE : Nat → Int32) (bs : Int32) (BA : Nat → Int32) (BB : Nat → Int32) (BC : Nat → Int32) (BD : Nat → Int32) (k21 : Int32 → Int32 → Int32 → Int32 → Int32 → Int32 → Int32 → (Nat → Int32) → (Nat → Int32) → (Nat → Int32) → Option (Int32 × Int32 × Int32 × (Nat → Int32) × (Nat → Int32) × (Nat → Int32))) (k110 : Int32 → Int32 → Int32 → Int32 → Int32 → Int32 → (Nat → Int32) → (Nat → Int32) → (Nat → Int32) → Option (Int32 × Int32 × Int32 × (Nat → Int32) × (Nat → Int32) × (Nat → Int32))) (a2 : Int32) (a3 : Int32) (a4 : Int32) (a5 : Int32) (mlo : Int32) (mhi : Int32) (msz1 : Int32) (mU : Nat → Int32) (mV : Nat → Int32) (mT : Nat → Int32) : Option (Int32 × Int32 × Int32 × (Nat → Int32) × (Nat → Int32) × (Nat → Int32)) :=
  (k21 a2 a3 a4 (a5 + 1) mlo mhi msz1 mU mV mT)
def JX7_gather_54 (ns : Nat) (nb : Nat) (n2 : Nat) (fac : Int32) (lx : Int32) (gx : Int32) (ly : Int32) (gy : Int32) (lz : Int32) (gz : Int32) (ss : Int32) (SA : Nat → Int32) (SB : Nat → Int32) (SC : Nat → Int32) (SE : Nat → Int32) (bs : Int32) (BA : Nat → Int32) (BB : Nat → Int32) (BC : Nat → Int32) (BD : Nat → Int32) (k21 : Int32 → Int32 → Int32 → Int32 → Int32 → Int32 → Int32 → (Nat → Int32) → (Nat → Int32) → (Nat → Int32) → Option (Int32 × Int32 × Int32 × (Nat → Int32) × (Nat → Int32) × (Nat → Int32))) (k110 : Int32 → Int32 → Int32 → Int32 → Int32 → Int32 → (Nat → Int32) → (Nat → Int32) → (Nat → Int32) → Option (Int32 × Int32 × Int32 × (Nat → Int32) × (Nat → Int32) × (Nat → Int32))) (a2 : Int32) (a3 : Int32) (a4 : Int32) (a5 : Int32) (mlo : Int32) (mhi : Int32) (msz1 : Int32) (mU : Nat → Int32) (mV : Nat → Int32) (mT : Nat → Int32) : Option (Int32 × Int32 × Int32 × (Nat → Int32) × (Nat → Int32) × (Nat → Int32)) :=
  (bd (fX7_look ns nb fac lz gz mlo mhi ss SA SB SC SE bs BA BB BC BD a4 a5) (fun v_5 => (LX7_gather_68 ns nb n2 fac lx gx ly gy lz gz ss SA SB SC SE bs BA BB BC BD (fun a2 a3 a4 a5 mlo mhi msz1 mU mV mT => (JX7_gather_104 ns nb n2 fac lx gx ly gy lz gz ss SA SB SC SE bs BA BB BC BD k21 k110 a2 a3 a4 a5 mlo mhi msz1 mU mV mT)) FU a2 a3 a4 a5 v_5.1 v_5.1 v_5.2 msz1 mU mV mT)))
def JX7_gather_40 (ns : Nat) (nb : Nat) (n2 : Nat) (fac : Int32) (lx : Int32) (gx : Int32) (ly : Int32) (gy : Int32) (lz : Int32) (gz : Int32) (ss : Int32) (SA : Nat → Int32) (SB : Nat → Int32) (SC : Nat → Int32) (SE : Nat → Int32) (bs : Int32) (BA : Nat → Int32) (BB : Nat → Int32) (BC : Nat → Int32) (BD : Nat → Int32) (k21 : Int32 → Int32 → Int32 → Int32 → Int32 → Int32 → Int32 → (Nat → Int32) → (Nat → Int32) → (Nat → Int32) → Option (Int32 × Int32 × Int32 × (Nat → Int32) × (Nat → Int32) × (Nat → Int32))) (k110 : Int32 → Int32 → Int32 → Int32 → Int32 → Int32 → (Nat → Int32) → (Nat → Int32) → (Nat → Int32) → Option (Int32 × Int32 × Int32 × (Nat → Int32) × (Nat → Int32) × (Nat → Int32))) (a2 : Int32) (a3 : Int32) (a4 : Int32) (a5 : Int32) (mlo : Int32) (mhi : Int32) (msz1 : Int32) (mU : Nat → Int32) (mV : Nat → Int32) (mT : Nat → Int32) : Option (Int32 × Int32 × Int32 × (Nat → Int32) × (Nat → Int32) × (Nat → Int32)) :=
  (if a2 = 1 then (if a5 = a3 then (JX7_gather_54 ns nb n2 fac lx gx ly gy lz gz ss SA SB SC SE bs BA BB BC BD k21 k110 a2 a3 a4 a5 mlo mhi msz1 mU mV mT) else (JX7_gather_104 ns nb n2 fac lx gx ly gy lz gz ss SA SB SC SE bs BA BB BC BD k21 k110 a2 a3 a4 a5 mlo mhi msz1 mU mV mT)) else (JX7_gather_54 ns nb n2 fac lx gx ly gy lz gz ss SA SB SC SE bs BA BB BC BD k21 k110 a2 a3 a4 a5 mlo mhi msz1 mU mV mT))
def LX7_gather_21 (ns : Nat) (nb : Nat) (n2 : Nat) (fac : Int32) (lx : Int32) (gx : Int32) (ly : Int32) (gy : Int32) (lz : Int32) (gz : Int32) (ss : Int32) (SA : Nat → Int32) (SB : Nat → Int32) (SC : Nat → Int32) (SE : Nat → Int32) (bs : Int32) (BA : Nat → Int32) (BB : Nat → Int32) (BC : Nat → Int32) (BD : Nat → Int32) (k110 : Int32 → Int32 → Int32 → Int32 → Int32 → Int32 → (Nat → Int32) → (Nat → Int32) → (Nat → Int32) → Option (Int32 × Int32 × Int32 × (Nat → Int32) × (Nat → Int32) × (Nat → Int32))) : Nat → Int32 → Int32 → Int32 → Int32 → Int32 → Int32 → Int32 → (Nat → Int32) → (Nat → Int32) → (Nat → Int32) → Option (Int32 × Int32 × Int32 × (Nat → Int32) × (Nat → Int32) × (Nat → Int32))
  | 0, _, _, _, _, _, _, _, _, _, _ => none
  | k + 1, a2, a3, a4, a5, mlo, mhi, msz1, mU, mV, mT =>
  (if gy < a5 then (k110 a2 a3 a4 mlo mhi msz1 mU mV mT) else (if a2 = 0 then (if a4 = a3 then (JX7_gather_40 ns nb n2 fac lx gx ly gy lz gz ss SA SB SC SE bs BA BB BC BD (LX7_gather_21 ns nb n2 fac lx gx ly gy lz gz ss SA SB SC SE bs BA BB BC BD k110 k) k110 a2 a3 a4 a5 mlo mhi msz1 mU mV mT) else (JX7_gather_104 ns nb n2 fac lx gx ly gy lz gz ss SA SB SC SE bs BA BB BC BD (LX7_gather_21 ns nb n2 fac lx gx ly gy lz gz ss SA SB SC SE bs BA BB BC BD k110 k) k110 a2 a3 a4 a5 mlo mhi msz1 mU mV mT)) else (JX7_gather_40 ns nb n2 fac lx gx ly gy lz gz ss SA SB SC SE bs BA BB BC BD (LX7_gather_21 ns nb n2 fac lx gx ly gy lz gz ss SA SB SC SE bs BA BB BC BD k110 k) k110 a2 a3 a4 a5 mlo mhi msz1 mU mV mT)))
def LX7_gather_6 (ns : Nat) (nb : Nat) (n2 : Nat) (fac : Int32) (lx : Int32) (gx : Int32) (ly : Int32) (gy : Int32) (lz : Int32) (gz : Int32) (ss : Int32) (SA : Nat → Int32) (SB : Nat → Int32) (SC : Nat → Int32) (SE : Nat → Int32) (bs : Int32) (BA : Nat → Int32) (BB : Nat → Int32) (BC : Nat → Int32) (BD : Nat → Int32)  : Nat → Int32 → Int32 → Int32 → Int32 → Int32 → Int32 → (Nat → Int32) → (Nat → Int32) → (Nat → Int32) → Option (Int32 × Int32 × Int32 × (Nat → Int32) × (Nat → Int32) × (Nat → Int32))
  | 0, _, _, _, _, _, _, _, _, _ => none
  | k + 1, a2, a3, a4, mlo, mhi, msz1, mU, mV, mT =>
  (if gx < a4 then (some (mlo, mhi, msz1, mU, mV, mT)) else (LX7_gather_21 ns nb n2 fac lx gx ly gy lz gz ss SA SB SC SE bs BA BB BC BD (fun a2 a3 a4 mlo mhi msz1 mU mV mT => (LX7_gather_6 ns nb n2 fac lx gx ly gy lz gz ss SA SB SC SE bs BA BB BC BD k a2 a3 (a4 + 1) mlo mhi msz1 mU mV mT)) FU a2 a3 a4 ly mlo mhi msz1 mU mV mT))
def fX7_gather (ns : Nat) (nb : Nat) (n2 : Nat) (fac : Int32) (lx : Int32) (gx : Int32) (ly : Int32) (gy : Int32) (lz : Int32) (gz : Int32) (lo : Int32) (hi : Int32) (ss : Int32) (SA : Nat → Int32) (SB : Nat → Int32) (SC : Nat → Int32) (SE : Nat → Int32) (bs : Int32) (BA : Nat → Int32) (BB : Nat → Int32) (BC : Nat → Int32) (BD : Nat → Int32) (sz1 : Int32) (U : Nat → Int32) (V : Nat → Int32) (T : Nat → Int32) (p1 : Int32) (p2 : Int32) : Option (Int32 × Int32 × Int32 × (Nat → Int32) × (Nat → Int32) × (Nat → Int32)) :=
  (LX7_gather_6 ns nb n2 fac lx gx ly gy lz gz ss SA SB SC SE bs BA BB BC BD FU p1 p2 lx lo hi sz1 U V T)
abbrev rX7_gather : Room := { frames := 3, cells := 0, slots := 0, locals := 68 }
set_option maxHeartbeats 40000000 in
set_option maxRecDepth 100000 in
theorem kX7_gather (l : Launch) (G : GT) (h0 af s0 aa ab ac ae b0 ba bb bc be g0 bX bY bZ : Nat) (sz : Nat) (nf ns nb n2 : Nat) (fac : Int32) (lx : Int32) (gx : Int32) (ly : Int32) (gy : Int32) (lz : Int32) (gz : Int32) (lo : Int32) (hi : Int32) (BE : Nat → Int32) (ss : Int32) (SA : Nat → Int32) (SB : Nat → Int32) (SC : Nat → Int32) (SE : Nat → Int32) (bs : Int32) (BA : Nat → Int32) (BB : Nat → Int32) (BC : Nat → Int32) (BD : Nat → Int32) (sz1 : Int32) (U : Nat → Int32) (V : Nat → Int32) (T : Nat → Int32) (p1 : Int32) (p2 : Int32) (res : Int32 × Int32 × Int32 × (Nat → Int32) × (Nat → Int32) × (Nat → Int32)) (hF : fX7_gather ns nb n2 fac lx gx ly gy lz gz lo hi ss SA SB SC SE bs BA BB BC BD sz1 U V T p1 p2 = some res) : Met l yX7_gather wsX7_gather rX7_gather (va_Pc [.ref h0, .ref g0, .int p1, .int p2] (pW G sz (wSwP G h0 af s0 aa ab ac ae b0 ba bb bc be g0 bX bY bZ nf ns nb n2 fac lx gx ly gy lz gz lo hi BE ss SA SB SC SE bs BA BB BC BD sz1 U V T))) (va_Qv (fun (u : Int32 × Int32 × Int32 × (Nat → Int32) × (Nat → Int32) × (Nat → Int32)) => u = res) (fun u t => qW G (va_A (wSwP G h0 af s0 aa ab ac ae b0 ba bb bc be g0 bX bY bZ nf ns nb n2 fac lx gx ly gy lz gz lo hi BE ss SA SB SC SE bs BA BB BC BD sz1 U V T) sz) (wSwP G h0 af s0 aa ab ac ae b0 ba bb bc be g0 bX bY bZ nf ns nb n2 fac lx gx ly gy lz gz u.1 u.2.1 BE ss SA SB SC SE bs BA BB BC BD u.2.2.1 u.2.2.2.1 u.2.2.2.2.1 u.2.2.2.2.2) t) (va_A (wSwP G h0 af s0 aa ab ac ae b0 ba bb bc be g0 bX bY bZ nf ns nb n2 fac lx gx ly gy lz gz lo hi BE ss SA SB SC SE bs BA BB BC BD sz1 U V T) sz)) 0 0 (va_A (wSwP G h0 af s0 aa ab ac ae b0 ba bb bc be g0 bX bY bZ nf ns nb n2 fac lx gx ly gy lz gz lo hi BE ss SA SB SC SE bs BA BB BC BD sz1 U V T) sz) := by
  refine Met.ofW (cc := cX7_gather) (maxL := 7) (ret := none) (by decide) rfl ?_
  intro p e s m args below meth c s₁ B hml hv
  obtain ⟨rfl, hsz, hP, hK, hD0⟩ := hv
  have hx := B.exec
  have hb := B.bytes
  have hr := B.returns
  have hts := atoms_spec (ws := wsX7_gather) B.pre
  have hown : s.vm.findClass RX7 = some m.cls := findClass_of_methodNamed B.named
  have hlocks := B.notSynchronized
  subst hsz
  have hD := hD0.self (sz := s.heap.size)
  generalize hAe : va_A (wSwP G h0 af s0 aa ab ac ae b0 ba bb bc be g0 bX bY bZ nf ns nb n2 fac lx gx ly gy lz gz lo hi BE ss SA SB SC SE bs BA BB BC BD sz1 U V T) s.heap.size = A at hD ⊢
  have hA : ∀ q : Nat, s.heap.size ≤ q → A q := fun q h => by rw [← hAe]; exact Or.inr h
  have hS : va_S A s.heap s.heap [] := va_S.rf
  have hin7 : ∀ w ∈ u_ws RX7 TX7 12, w ∈ wsX7_gather := by decide +kernel
  have hfl22 := hts (.fieldLink RX7 22 "SwellBodies$Swelling" "leastX" "I") (by decide +kernel)
  have hfl25 := hts (.fieldLink RX7 25 "SwellBodies$Swelling" "greatestX" "I") (by decide +kernel)
  have hfl28 := hts (.fieldLink RX7 28 "SwellBodies$Swelling" "leastY" "I") (by decide +kernel)
  have hfl31 := hts (.fieldLink RX7 31 "SwellBodies$Swelling" "greatestY" "I") (by decide +kernel)
  have hfl64 := hts (.fieldLink RX7 64 "SwellBodies$Swelling" "low" "I") (by decide +kernel)
  have hfl61 := hts (.fieldLink RX7 61 "SwellBodies$Swelling" "high" "I") (by decide +kernel)
  have hl := lv_entry ([.ref h0, .ref g0, .int p1, .int p2]) (n := 7) (Nat.le_of_ble_eq_true rfl)
  rw [lg_entry_eq]
  generalize (lg_sl ([.ref h0, .ref g0, .int p1, .int p2]) ++ List.replicate (7 - (lg_sl ([.ref h0, .ref g0, .int p1, .int p2])).length) Slot.unset).toArray = ls at hl ⊢
  have hl : lv_has ls 7 [(0, .ref h0), (1, .ref g0), (2, .int p1), (3, .int p2)] := hl
  have hJ98 : ∀ (k68 : Int32 → Int32 → Int32 → Int32 → Int32 → Int32 → Int32 → Int32 → (Nat → Int32) → (Nat → Int32) → (Nat → Int32) → Option (Int32 × Int32 × Int32 × (Nat → Int32) × (Nat → Int32) × (Nat → Int32))), (∀ (a2 : Int32) (a3 : Int32) (a4 : Int32) (a5 : Int32) (a6 : Int32) (mlo : Int32) (mhi : Int32) (msz1 : Int32) (mU : Nat → Int32) (mV : Nat → Int32) (mT : Nat → Int32) (H : Heap) (locs : List Loc) (ls : Array Slot), k68 a2 a3 a4 a5 a6 mlo mhi msz1 mU mV mT = some res → va_P (gD G) vwCl (wSwP G h0 af s0 aa ab ac ae b0 ba bb bc be g0 bX bY bZ nf ns nb n2 fac lx gx ly gy lz gz mlo mhi BE ss SA SB SC SE bs BA BB BC BD msz1 mU mV mT) H → va_D A (wSwP G h0 af s0 aa ab ac ae b0 ba bb bc be g0 bX bY bZ nf ns nb n2 fac lx gx ly gy lz gz mlo mhi BE ss SA SB SC SE bs BA BB BC BD msz1 mU mV mT) → va_S A s.heap H locs → lv_has ls 7 [(0, .ref h0), (1, .ref g0), (2, .int a2), (3, .int a3), (4, .int a4), (5, .int a5), (6, .int a6)] → W p l e (headSpec wsX7_gather rX7_gather).room s m ([.ref h0, .ref g0, .int p1, .int p2] : List Value).toArray below meth c H locs 0 0 (MQ below (va_Qv (fun (u : Int32 × Int32 × Int32 × (Nat → Int32) × (Nat → Int32) × (Nat → Int32)) => u = res) (fun u t => qW G A (wSwP G h0 af s0 aa ab ac ae b0 ba bb bc be g0 bX bY bZ nf ns nb n2 fac lx gx ly gy lz gz u.1 u.2.1 BE ss SA SB SC SE bs BA BB BC BD u.2.2.1 u.2.2.2.1 u.2.2.2.2.1 u.2.2.2.2.2) t) A) ([.ref h0, .ref g0, .int p1, .int p2] : List Value).toArray s 0 0 A) (F0 m 68 ls [])) → ∀ (k104 : Int32 → Int32 → Int32 → Int32 → Int32 → Int32 → Int32 → (Nat → Int32) → (Nat → Int32) → (Nat → Int32) → Option (Int32 × Int32 × Int32 × (Nat → Int32) × (Nat → Int32) × (Nat → Int32))), (∀ (a2 : Int32) (a3 : Int32) (a4 : Int32) (a5 : Int32) (mlo : Int32) (mhi : Int32) (msz1 : Int32) (mU : Nat → Int32) (mV : Nat → Int32) (mT : Nat → Int32) (H : Heap) (locs : List Loc) (ls : Array Slot), k104 a2 a3 a4 a5 mlo mhi msz1 mU mV mT = some res → va_P (gD G) vwCl (wSwP G h0 af s0 aa ab ac ae b0 ba bb bc be g0 bX bY bZ nf ns nb n2 fac lx gx ly gy lz gz mlo mhi BE ss SA SB SC SE bs BA BB BC BD msz1 mU mV mT) H → va_D A (wSwP G h0 af s0 aa ab ac ae b0 ba bb bc be g0 bX bY bZ nf ns nb n2 fac lx gx ly gy lz gz mlo mhi BE ss SA SB SC SE bs BA BB BC BD msz1 mU mV mT) → va_S A s.heap H locs → lv_has ls 7 [(0, .ref h0), (1, .ref g0), (2, .int a2), (3, .int a3), (4, .int a4), (5, .int a5)] → W p l e (headSpec wsX7_gather rX7_gather).room s m ([.ref h0, .ref g0, .int p1, .int p2] : List Value).toArray below meth c H locs 0 0 (MQ below (va_Qv (fun (u : Int32 × Int32 × Int32 × (Nat → Int32) × (Nat → Int32) × (Nat → Int32)) => u = res) (fun u t => qW G A (wSwP G h0 af s0 aa ab ac ae b0 ba bb bc be g0 bX bY bZ nf ns nb n2 fac lx gx ly gy lz gz u.1 u.2.1 BE ss SA SB SC SE bs BA BB BC BD u.2.2.1 u.2.2.2.1 u.2.2.2.2.1 u.2.2.2.2.2) t) A) ([.ref h0, .ref g0, .int p1, .int p2] : List Value).toArray s 0 0 A) (F0 m 104 ls [])) → ∀ (a2 : Int32) (a3 : Int32) (a4 : Int32) (a5 : Int32) (a6 : Int32) (mlo : Int32) (mhi : Int32) (msz1 : Int32) (mU : Nat → Int32) (mV : Nat → Int32) (mT : Nat → Int32) (H : Heap) (locs : List Loc) (ls : Array Slot), JX7_gather_98 ns nb n2 fac lx gx ly gy lz gz ss SA SB SC SE bs BA BB BC BD k68 k104 a2 a3 a4 a5 a6 mlo mhi msz1 mU mV mT = some res → va_P (gD G) vwCl (wSwP G h0 af s0 aa ab ac ae b0 ba bb bc be g0 bX bY bZ nf ns nb n2 fac lx gx ly gy lz gz mlo mhi BE ss SA SB SC SE bs BA BB BC BD msz1 mU mV mT) H → va_D A (wSwP G h0 af s0 aa ab ac ae b0 ba bb bc be g0 bX bY bZ nf ns nb n2 fac lx gx ly gy lz gz mlo mhi BE ss SA SB SC SE bs BA BB BC BD msz1 mU mV mT) → va_S A s.heap H locs → lv_has ls 7 [(0, .ref h0), (1, .ref g0), (2, .int a2), (3, .int a3), (4, .int a4), (5, .int a5), (6, .int a6)] → W p l e (headSpec wsX7_gather rX7_gather).room s m ([.ref h0, .ref g0, .int p1, .int p2] : List Value).toArray below meth c H locs 0 0 (MQ below (va_Qv (fun (u : Int32 × Int32 × Int32 × (Nat → Int32) × (Nat → Int32) × (Nat → Int32)) => u = res) (fun u t => qW G A (wSwP G h0 af s0 aa ab ac ae b0 ba bb bc be g0 bX bY bZ nf ns nb n2 fac lx gx ly gy lz gz u.1 u.2.1 BE ss SA SB SC SE bs BA BB BC BD u.2.2.1 u.2.2.2.1 u.2.2.2.2.1 u.2.2.2.2.2) t) A) ([.ref h0, .ref g0, .int p1, .int p2] : List Value).toArray s 0 0 A) (F0 m 98 ls []) := by
    intro k68 hk68 k104 hk104
    intro a2 a3 a4 a5 a6 mlo mhi msz1 mU mV mT H locs ls hF hP hD hS hl
    unfold JX7_gather_98 at hF
    refine lv_iinc (v := a6 + 1) (lv' := [(6, .int (a6 + 1)), (0, .ref h0), (1, .ref g0), (2, .int a2), (3, .int a3), (4, .int a4), (5, .int a5)]) hx hb dX7_gather_98 hl (k := 6) rfl rfl (by decide) rfl (fun ls hl => ?_)
    refine lv_goto (tgt := 68) hx hb dX7_gather_101 (by decide) ?_
    exact hk68 a2 a3 a4 a5 (a6 + 1) mlo mhi msz1 mU mV mT _ _ _ hF hP hD hS (lv_sub hl [1, 2, 3, 4, 5, 6, 0] rfl)
  have hJ88 : ∀ (k68 : Int32 → Int32 → Int32 → Int32 → Int32 → Int32 → Int32 → Int32 → (Nat → Int32) → (Nat → Int32) → (Nat → Int32) → Option (Int32 × Int32 × Int32 × (Nat → Int32) × (Nat → Int32) × (Nat → Int32))), (∀ (a2 : Int32) (a3 : Int32) (a4 : Int32) (a5 : Int32) (a6 : Int32) (mlo : Int32) (mhi : Int32) (msz1 : Int32) (mU : Nat → Int32) (mV : Nat → Int32) (mT : Nat → Int32) (H : Heap) (locs : List Loc) (ls : Array Slot), k68 a2 a3 a4 a5 a6 mlo mhi msz1 mU mV mT = some res → va_P (gD G) vwCl (wSwP G h0 af s0 aa ab ac ae b0 ba bb bc be g0 bX bY bZ nf ns nb n2 fac lx gx ly gy lz gz mlo mhi BE ss SA SB SC SE bs BA BB BC BD msz1 mU mV mT) H → va_D A (wSwP G h0 af s0 aa ab ac ae b0 ba bb bc be g0 bX bY bZ nf ns nb n2 fac lx gx ly gy lz gz mlo mhi BE ss SA SB SC SE bs BA BB BC BD msz1 mU mV mT) → va_S A s.heap H locs → lv_has ls 7 [(0, .ref h0), (1, .ref g0), (2, .int a2), (3, .int a3), (4, .int a4), (5, .int a5), (6, .int a6)] → W p l e (headSpec wsX7_gather rX7_gather).room s m ([.ref h0, .ref g0, .int p1, .int p2] : List Value).toArray below meth c H locs 0 0 (MQ below (va_Qv (fun (u : Int32 × Int32 × Int32 × (Nat → Int32) × (Nat → Int32) × (Nat → Int32)) => u = res) (fun u t => qW G A (wSwP G h0 af s0 aa ab ac ae b0 ba bb bc be g0 bX bY bZ nf ns nb n2 fac lx gx ly gy lz gz u.1 u.2.1 BE ss SA SB SC SE bs BA BB BC BD u.2.2.1 u.2.2.2.1 u.2.2.2.2.1 u.2.2.2.2.2) t) A) ([.ref h0, .ref g0, .int p1, .int p2] : List Value).toArray s 0 0 A) (F0 m 68 ls [])) → ∀ (k104 : Int32 → Int32 → Int32 → Int32 → Int32 → Int32 → Int32 → (Nat → Int32) → (Nat → Int32) → (Nat → Int32) → Option (Int32 × Int32 × Int32 × (Nat → Int32) × (Nat → Int32) × (Nat → Int32))), (∀ (a2 : Int32) (a3 : Int32) (a4 : Int32) (a5 : Int32) (mlo : Int32) (mhi : Int32) (msz1 : Int32) (mU : Nat → Int32) (mV : Nat → Int32) (mT : Nat → Int32) (H : Heap) (locs : List Loc) (ls : Array Slot), k104 a2 a3 a4 a5 mlo mhi msz1 mU mV mT = some res → va_P (gD G) vwCl (wSwP G h0 af s0 aa ab ac ae b0 ba bb bc be g0 bX bY bZ nf ns nb n2 fac lx gx ly gy lz gz mlo mhi BE ss SA SB SC SE bs BA BB BC BD msz1 mU mV mT) H → va_D A (wSwP G h0 af s0 aa ab ac ae b0 ba bb bc be g0 bX bY bZ nf ns nb n2 fac lx gx ly gy lz gz mlo mhi BE ss SA SB SC SE bs BA BB BC BD msz1 mU mV mT) → va_S A s.heap H locs → lv_has ls 7 [(0, .ref h0), (1, .ref g0), (2, .int a2), (3, .int a3), (4, .int a4), (5, .int a5)] → W p l e (headSpec wsX7_gather rX7_gather).room s m ([.ref h0, .ref g0, .int p1, .int p2] : List Value).toArray below meth c H locs 0 0 (MQ below (va_Qv (fun (u : Int32 × Int32 × Int32 × (Nat → Int32) × (Nat → Int32) × (Nat → Int32)) => u = res) (fun u t => qW G A (wSwP G h0 af s0 aa ab ac ae b0 ba bb bc be g0 bX bY bZ nf ns nb n2 fac lx gx ly gy lz gz u.1 u.2.1 BE ss SA SB SC SE bs BA BB BC BD u.2.2.1 u.2.2.2.1 u.2.2.2.2.1 u.2.2.2.2.2) t) A) ([.ref h0, .ref g0, .int p1, .int p2] : List Value).toArray s 0 0 A) (F0 m 104 ls [])) → ∀ (a2 : Int32) (a3 : Int32) (a4 : Int32) (a5 : Int32) (a6 : Int32) (mlo : Int32) (mhi : Int32) (msz1 : Int32) (mU : Nat → Int32) (mV : Nat → Int32) (mT : Nat → Int32) (H : Heap) (locs : List Loc) (ls : Array Slot), JX7_gather_88 ns nb n2 fac lx gx ly gy lz gz ss SA SB SC SE bs BA BB BC BD k68 k104 a2 a3 a4 a5 a6 mlo mhi msz1 mU mV mT = some res → va_P (gD G) vwCl (wSwP G h0 af s0 aa ab ac ae b0 ba bb bc be g0 bX bY bZ nf ns nb n2 fac lx gx ly gy lz gz mlo mhi BE ss SA SB SC SE bs BA BB BC BD msz1 mU mV mT) H → va_D A (wSwP G h0 af s0 aa ab ac ae b0 ba bb bc be g0 bX bY bZ nf ns nb n2 fac lx gx ly gy lz gz mlo mhi BE ss SA SB SC SE bs BA BB BC BD msz1 mU mV mT) → va_S A s.heap H locs → lv_has ls 7 [(0, .ref h0), (1, .ref g0), (2, .int a2), (3, .int a3), (4, .int a4), (5, .int a5), (6, .int a6)] → W p l e (headSpec wsX7_gather rX7_gather).room s m ([.ref h0, .ref g0, .int p1, .int p2] : List Value).toArray below meth c H locs 0 0 (MQ below (va_Qv (fun (u : Int32 × Int32 × Int32 × (Nat → Int32) × (Nat → Int32) × (Nat → Int32)) => u = res) (fun u t => qW G A (wSwP G h0 af s0 aa ab ac ae b0 ba bb bc be g0 bX bY bZ nf ns nb n2 fac lx gx ly gy lz gz u.1 u.2.1 BE ss SA SB SC SE bs BA BB BC BD u.2.2.1 u.2.2.2.1 u.2.2.2.2.1 u.2.2.2.2.2) t) A) ([.ref h0, .ref g0, .int p1, .int p2] : List Value).toArray s 0 0 A) (F0 m 88 ls []) := by
    intro k68 hk68 k104 hk104
    intro a2 a3 a4 a5 a6 mlo mhi msz1 mU mV mT H locs ls hF hP hD hS hl
    unfold JX7_gather_88 at hF
    refine lv_aload_n hx hb dX7_gather_88 rfl (lv_at hl 1 rfl) ?_
    refine lv_iload hx hb dX7_gather_89 (lv_at hl 4 rfl) ?_
    refine lv_iload hx hb dX7_gather_91 (lv_at hl 5 rfl) ?_
    refine lv_iload hx hb dX7_gather_93 (lv_at hl 6 rfl) ?_
    obtain ⟨v_8, hv_8, hF⟩ := bd_s hF
    refine rw_ve (wf := (fun (u : Int32 × (Nat → Int32) × (Nat → Int32) × (Nat → Int32)) => (wPts G g0 bX bY bZ n2 u.1 u.2.1 u.2.2.1 u.2.2.2))) (wr := [(h0, .inr (7, [.ref s0, .ref b0, .int fac, .int lx, .int gx, .int ly, .int gy, .int lz, .int gz, .ref af, .int mlo, .int mhi])), (af, .inl (gI G, nf, .inl BE)), (s0, .inr (1, [.ref aa, .ref ab, .ref ac, .ref ae, .int ss])), (aa, .inl (gI G, ns, .inl SA)), (ab, .inl (gI G, ns, .inl SB)), (ac, .inl (gI G, ns, .inl SC)), (ae, .inl (gI G, ns, .inl SE)), (b0, .inr (1, [.ref ba, .ref bb, .ref bc, .ref be, .int bs])), (ba, .inl (gI G, nb, .inl BA)), (bb, .inl (gI G, nb, .inl BB)), (bc, .inl (gI G, nb, .inl BC)), (be, .inl (gI G, nb, .inl BD))]) (va_runV (As := [.int a4, .int a5, .int a6]) (rest := []) ⟨hx, hb, hml, hown, hts⟩ (kX4_put l G g0 bX bY bZ H.size n2 msz1 mU mV mT a4 a5 a6 v_8 hv_8) (cwV 3 hts gX7_gather_X4_put rfl rfl rfl (by decide +kernel) ⟨Nat.le_of_ble_eq_true rfl, Nat.le_of_ble_eq_true rfl⟩) (pvW (q0 := 0) 4 hK (hP.sub (ws' := (wPts G g0 bX bY bZ n2 msz1 mU mV mT)) [12, 13, 14, 15] rfl) (hD.sub (ws' := (wPts G g0 bX bY bZ n2 msz1 mU mV mT)) [12, 13, 14, 15] (by decide) rfl) rfl rfl) rfl rfl hl.1 rfl (lv_room (Nat.le_of_ble_eq_true rfl)) dX7_gather_95 ⟨Nat.le_of_ble_eq_true rfl, Nat.le_of_ble_eq_true rfl⟩) hP hD hS hA [12, 13, 14, 15] [0, 1, 2, 3, 4, 5, 6, 7, 8, 9, 10, 11] rfl rfl (by decide) (by decide) (fun H locs  hP hD hS => ?_)
    have hP : va_P (gD G) vwCl (wSwP G h0 af s0 aa ab ac ae b0 ba bb bc be g0 bX bY bZ nf ns nb n2 fac lx gx ly gy lz gz mlo mhi BE ss SA SB SC SE bs BA BB BC BD v_8.1 v_8.2.1 v_8.2.2.1 v_8.2.2.2) H := hP.sub [0, 1, 2, 3, 4, 5, 6, 7, 8, 9, 10, 11, 12, 13, 14, 15] rfl
    have hD : va_D A (wSwP G h0 af s0 aa ab ac ae b0 ba bb bc be g0 bX bY bZ nf ns nb n2 fac lx gx ly gy lz gz mlo mhi BE ss SA SB SC SE bs BA BB BC BD v_8.1 v_8.2.1 v_8.2.2.1 v_8.2.2.2) := hD.sub [0, 1, 2, 3, 4, 5, 6, 7, 8, 9, 10, 11, 12, 13, 14, 15] (by decide) rfl
    exact hJ98 _ hk68 _ hk104 a2 a3 a4 a5 a6 mlo mhi v_8.1 v_8.2.1 v_8.2.2.1 v_8.2.2.2 _ _ _ hF hP hD hS (lv_sub hl [0, 1, 2, 3, 4, 5, 6] rfl)
  have hL68 : ∀ (k104 : Int32 → Int32 → Int32 → Int32 → Int32 → Int32 → Int32 → (Nat → Int32) → (Nat → Int32) → (Nat → Int32) → Option (Int32 × Int32 × Int32 × (Nat → Int32) × (Nat → Int32) × (Nat → Int32))), (∀ (a2 : Int32) (a3 : Int32) (a4 : Int32) (a5 : Int32) (mlo : Int32) (mhi : Int32) (msz1 : Int32) (mU : Nat → Int32) (mV : Nat → Int32) (mT : Nat → Int32) (H : Heap) (locs : List Loc) (ls : Array Slot), k104 a2 a3 a4 a5 mlo mhi msz1 mU mV mT = some res → va_P (gD G) vwCl (wSwP G h0 af s0 aa ab ac ae b0 ba bb bc be g0 bX bY bZ nf ns nb n2 fac lx gx ly gy lz gz mlo mhi BE ss SA SB SC SE bs BA BB BC BD msz1 mU mV mT) H → va_D A (wSwP G h0 af s0 aa ab ac ae b0 ba bb bc be g0 bX bY bZ nf ns nb n2 fac lx gx ly gy lz gz mlo mhi BE ss SA SB SC SE bs BA BB BC BD msz1 mU mV mT) → va_S A s.heap H locs → lv_has ls 7 [(0, .ref h0), (1, .ref g0), (2, .int a2), (3, .int a3), (4, .int a4), (5, .int a5)] → W p l e (headSpec wsX7_gather rX7_gather).room s m ([.ref h0, .ref g0, .int p1, .int p2] : List Value).toArray below meth c H locs 0 0 (MQ below (va_Qv (fun (u : Int32 × Int32 × Int32 × (Nat → Int32) × (Nat → Int32) × (Nat → Int32)) => u = res) (fun u t => qW G A (wSwP G h0 af s0 aa ab ac ae b0 ba bb bc be g0 bX bY bZ nf ns nb n2 fac lx gx ly gy lz gz u.1 u.2.1 BE ss SA SB SC SE bs BA BB BC BD u.2.2.1 u.2.2.2.1 u.2.2.2.2.1 u.2.2.2.2.2) t) A) ([.ref h0, .ref g0, .int p1, .int p2] : List Value).toArray s 0 0 A) (F0 m 104 ls [])) → ∀ (k : Nat), ∀ (a2 : Int32) (a3 : Int32) (a4 : Int32) (a5 : Int32) (a6 : Int32) (mlo : Int32) (mhi : Int32) (msz1 : Int32) (mU : Nat → Int32) (mV : Nat → Int32) (mT : Nat → Int32) (H : Heap) (locs : List Loc) (ls : Array Slot), LX7_gather_68 ns nb n2 fac lx gx ly gy lz gz ss SA SB SC SE bs BA BB BC BD k104 k a2 a3 a4 a5 a6 mlo mhi msz1 mU mV mT = some res → va_P (gD G) vwCl (wSwP G h0 af s0 aa ab ac ae b0 ba bb bc be g0 bX bY bZ nf ns nb n2 fac lx gx ly gy lz gz mlo mhi BE ss SA SB SC SE bs BA BB BC BD msz1 mU mV mT) H → va_D A (wSwP G h0 af s0 aa ab ac ae b0 ba bb bc be g0 bX bY bZ nf ns nb n2 fac lx gx ly gy lz gz mlo mhi BE ss SA SB SC SE bs BA BB BC BD msz1 mU mV mT) → va_S A s.heap H locs → lv_has ls 7 [(0, .ref h0), (1, .ref g0), (2, .int a2), (3, .int a3), (4, .int a4), (5, .int a5), (6, .int a6)] → W p l e (headSpec wsX7_gather rX7_gather).room s m ([.ref h0, .ref g0, .int p1, .int p2] : List Value).toArray below meth c H locs 0 0 (MQ below (va_Qv (fun (u : Int32 × Int32 × Int32 × (Nat → Int32) × (Nat → Int32) × (Nat → Int32)) => u = res) (fun u t => qW G A (wSwP G h0 af s0 aa ab ac ae b0 ba bb bc be g0 bX bY bZ nf ns nb n2 fac lx gx ly gy lz gz u.1 u.2.1 BE ss SA SB SC SE bs BA BB BC BD u.2.2.1 u.2.2.2.1 u.2.2.2.2.1 u.2.2.2.2.2) t) A) ([.ref h0, .ref g0, .int p1, .int p2] : List Value).toArray s 0 0 A) (F0 m 68 ls []) := by
    intro k104 hk104
    intro k
    induction k with
    | zero =>
      intro a2 a3 a4 a5 a6 mlo mhi msz1 mU mV mT H locs ls hF hP hD hS hl
      rw [LX7_gather_68] at hF
      cases hF
    | succ k ih =>
      intro a2 a3 a4 a5 a6 mlo mhi msz1 mU mV mT H locs ls hF hP hD hS hl
      rw [LX7_gather_68] at hF
      refine lv_iload hx hb dX7_gather_68 (lv_at hl 6 rfl) ?_
      refine lv_aload_n hx hb dX7_gather_70 rfl (lv_at hl 0 rfl) ?_
      refine va_get (ci := 7) (v := .int mhi) (C := RX7) (T := TX7) (N := 12) hx hb hts hin7 hown hK hP 0 rfl rfl 11 (by decide) hfl61 (fun _ h9 => h9) rfl dX7_gather_71 ?_
      refine lv_icmp_gt (tgt := 104) hx hb dX7_gather_74 (by decide) (fun c_6 => ?_) (fun c_6 => ?_)
      · replace hF := it_p c_6 hF
        exact hk104 a2 a3 a4 a5 mlo mhi msz1 mU mV mT _ _ _ hF hP hD hS (lv_sub hl [0, 1, 2, 3, 4, 5] rfl)
      · replace hF := it_n c_6 hF
        refine lv_iload_n hx hb dX7_gather_77 rfl (lv_at hl 2 rfl) ?_
        refine lv_iconst (v := 2) hx hb dX7_gather_78 (by decide) ?_
        refine lv_icmp_ne (tgt := 88) hx hb dX7_gather_79 (by decide) (fun c_7 => ?_) (fun c_7 => ?_)
        · replace hF := it_n c_7 hF
          exact hJ88 _ ih _ hk104 a2 a3 a4 a5 a6 mlo mhi msz1 mU mV mT _ _ _ hF hP hD hS (lv_sub hl [0, 1, 2, 3, 4, 5, 6] rfl)
        · replace hF := it_p c_7 hF
          refine lv_iload hx hb dX7_gather_82 (lv_at hl 6 rfl) ?_
          refine lv_iload_n hx hb dX7_gather_84 rfl (lv_at hl 3 rfl) ?_
          refine lv_icmp_ne (tgt := 98) hx hb dX7_gather_85 (by decide) (fun c_9 => ?_) (fun c_9 => ?_)
          · replace hF := it_n c_9 hF
            exact hJ98 _ ih _ hk104 a2 a3 a4 a5 a6 mlo mhi msz1 mU mV mT _ _ _ hF hP hD hS (lv_sub hl [0, 1, 2, 3, 4, 5, 6] rfl)
          · replace hF := it_p c_9 hF
            exact hJ88 _ ih _ hk104 a2 a3 a4 a5 a6 mlo mhi msz1 mU mV mT _ _ _ hF hP hD hS (lv_sub hl [0, 1, 2, 3, 4, 5, 6] rfl)
  have hJ104 : ∀ (k21 : Int32 → Int32 → Int32 → Int32 → Int32 → Int32 → Int32 → (Nat → Int32) → (Nat → Int32) → (Nat → Int32) → Option (Int32 × Int32 × Int32 × (Nat → Int32) × (Nat → Int32) × (Nat → Int32))), (∀ (a2 : Int32) (a3 : Int32) (a4 : Int32) (a5 : Int32) (mlo : Int32) (mhi : Int32) (msz1 : Int32) (mU : Nat → Int32) (mV : Nat → Int32) (mT : Nat → Int32) (H : Heap) (locs : List Loc) (ls : Array Slot), k21 a2 a3 a4 a5 mlo mhi msz1 mU mV mT = some res → va_P (gD G) vwCl (wSwP G h0 af s0 aa ab ac ae b0 ba bb bc be g0 bX bY bZ nf ns nb n2 fac lx gx ly gy lz gz mlo mhi BE ss SA SB SC SE bs BA BB BC BD msz1 mU mV mT) H → va_D A (wSwP G h0 af s0 aa ab ac ae b0 ba bb bc be g0 bX bY bZ nf ns nb n2 fac lx gx ly gy lz gz mlo mhi BE ss SA SB SC SE bs BA BB BC BD msz1 mU mV mT) → va_S A s.heap H locs → lv_has ls 7 [(0, .ref h0), (1, .ref g0), (2, .int a2), (3, .int a3), (4, .int a4), (5, .int a5)] → W p l e (headSpec wsX7_gather rX7_gather).room s m ([.ref h0, .ref g0, .int p1, .int p2] : List Value).toArray below meth c H locs 0 0 (MQ below (va_Qv (fun (u : Int32 × Int32 × Int32 × (Nat → Int32) × (Nat → Int32) × (Nat → Int32)) => u = res) (fun u t => qW G A (wSwP G h0 af s0 aa ab ac ae b0 ba bb bc be g0 bX bY bZ nf ns nb n2 fac lx gx ly gy lz gz u.1 u.2.1 BE ss SA SB SC SE bs BA BB BC BD u.2.2.1 u.2.2.2.1 u.2.2.2.2.1 u.2.2.2.2.2) t) A) ([.ref h0, .ref g0, .int p1, .int p2] : List Value).toArray s 0 0 A) (F0 m 21 ls [])) → ∀ (k110 : Int32 → Int32 → Int32 → Int32 → Int32 → Int32 → (Nat → Int32) → (Nat → Int32) → (Nat → Int32) → Option (Int32 × Int32 × Int32 × (Nat → Int32) × (Nat → Int32) × (Nat → Int32))), (∀ (a2 : Int32) (a3 : Int32) (a4 : Int32) (mlo : Int32) (mhi : Int32) (msz1 : Int32) (mU : Nat → Int32) (mV : Nat → Int32) (mT : Nat → Int32) (H : Heap) (locs : List Loc) (ls : Array Slot), k110 a2 a3 a4 mlo mhi msz1 mU mV mT = some res → va_P (gD G) vwCl (wSwP G h0 af s0 aa ab ac ae b0 ba bb bc be g0 bX bY bZ nf ns nb n2 fac lx gx ly gy lz gz mlo mhi BE ss SA SB SC SE bs BA BB BC BD msz1 mU mV mT) H → va_D A (wSwP G h0 af s0 aa ab ac ae b0 ba bb bc be g0 bX bY bZ nf ns nb n2 fac lx gx ly gy lz gz mlo mhi BE ss SA SB SC SE bs BA BB BC BD msz1 mU mV mT) → va_S A s.heap H locs → lv_has ls 7 [(0, .ref h0), (1, .ref g0), (2, .int a2), (3, .int a3), (4, .int a4)] → W p l e (headSpec wsX7_gather rX7_gather).room s m ([.ref h0, .ref g0, .int p1, .int p2] : List Value).toArray below meth c H locs 0 0 (MQ below (va_Qv (fun (u : Int32 × Int32 × Int32 × (Nat → Int32) × (Nat → Int32) × (Nat → Int32)) => u = res) (fun u t => qW G A (wSwP G h0 af s0 aa ab ac ae b0 ba bb bc be g0 bX bY bZ nf ns nb n2 fac lx gx ly gy lz gz u.1 u.2.1 BE ss SA SB SC SE bs BA BB BC BD u.2.2.1 u.2.2.2.1 u.2.2.2.2.1 u.2.2.2.2.2) t) A) ([.ref h0, .ref g0, .int p1, .int p2] : List Value).toArray s 0 0 A) (F0 m 110 ls [])) → ∀ (a2 : Int32) (a3 : Int32) (a4 : Int32) (a5 : Int32) (mlo : Int32) (mhi : Int32) (msz1 : Int32) (mU : Nat → Int32) (mV : Nat → Int32) (mT : Nat → Int32) (H : Heap) (locs : List Loc) (ls : Array Slot), JX7_gather_104 ns nb n2 fac lx gx ly gy lz gz ss SA SB SC SE bs BA BB BC BD k21 k110 a2 a3 a4 a5 mlo mhi msz1 mU mV mT = some res → va_P (gD G) vwCl (wSwP G h0 af s0 aa ab ac ae b0 ba bb bc be g0 bX bY bZ nf ns nb n2 fac lx gx ly gy lz gz mlo mhi BE ss SA SB SC SE bs BA BB BC BD msz1 mU mV mT) H → va_D A (wSwP G h0 af s0 aa ab ac ae b0 ba bb bc be g0 bX bY bZ nf ns nb n2 fac lx gx ly gy lz gz mlo mhi BE ss SA SB SC SE bs BA BB BC BD msz1 mU mV mT) → va_S A s.heap H locs → lv_has ls 7 [(0, .ref h0), (1, .ref g0), (2, .int a2), (3, .int a3), (4, .int a4), (5, .int a5)] → W p l e (headSpec wsX7_gather rX7_gather).room s m ([.ref h0, .ref g0, .int p1, .int p2] : List Value).toArray below meth c H locs 0 0 (MQ below (va_Qv (fun (u : Int32 × Int32 × Int32 × (Nat → Int32) × (Nat → Int32) × (Nat → Int32)) => u = res) (fun u t => qW G A (wSwP G h0 af s0 aa ab ac ae b0 ba bb bc be g0 bX bY bZ nf ns nb n2 fac lx gx ly gy lz gz u.1 u.2.1 BE ss SA SB SC SE bs BA BB BC BD u.2.2.1 u.2.2.2.1 u.2.2.2.2.1 u.2.2.2.2.2) t) A) ([.ref h0, .ref g0, .int p1, .int p2] : List Value).toArray s 0 0 A) (F0 m 104 ls []) := by
    intro k21 hk21 k110 hk110
    intro a2 a3 a4 a5 mlo mhi msz1 mU mV mT H locs ls hF hP hD hS hl
    unfold JX7_gather_104 at hF
    refine lv_iinc (v := a5 + 1) (lv' := [(5, .int (a5 + 1)), (0, .ref h0), (1, .ref g0), (2, .int a2), (3, .int a3), (4, .int a4)]) hx hb dX7_gather_104 hl (k := 5) rfl rfl (by decide) rfl (fun ls hl => ?_)
    refine lv_goto (tgt := 21) hx hb dX7_gather_107 (by decide) ?_
    exact hk21 a2 a3 a4 (a5 + 1) mlo mhi msz1 mU mV mT _ _ _ hF hP hD hS (lv_sub hl [1, 2, 3, 4, 5, 0] rfl)
  have hJ54 : ∀ (k21 : Int32 → Int32 → Int32 → Int32 → Int32 → Int32 → Int32 → (Nat → Int32) → (Nat → Int32) → (Nat → Int32) → Option (Int32 × Int32 × Int32 × (Nat → Int32) × (Nat → Int32) × (Nat → Int32))), (∀ (a2 : Int32) (a3 : Int32) (a4 : Int32) (a5 : Int32) (mlo : Int32) (mhi : Int32) (msz1 : Int32) (mU : Nat → Int32) (mV : Nat → Int32) (mT : Nat → Int32) (H : Heap) (locs : List Loc) (ls : Array Slot), k21 a2 a3 a4 a5 mlo mhi msz1 mU mV mT = some res → va_P (gD G) vwCl (wSwP G h0 af s0 aa ab ac ae b0 ba bb bc be g0 bX bY bZ nf ns nb n2 fac lx gx ly gy lz gz mlo mhi BE ss SA SB SC SE bs BA BB BC BD msz1 mU mV mT) H → va_D A (wSwP G h0 af s0 aa ab ac ae b0 ba bb bc be g0 bX bY bZ nf ns nb n2 fac lx gx ly gy lz gz mlo mhi BE ss SA SB SC SE bs BA BB BC BD msz1 mU mV mT) → va_S A s.heap H locs → lv_has ls 7 [(0, .ref h0), (1, .ref g0), (2, .int a2), (3, .int a3), (4, .int a4), (5, .int a5)] → W p l e (headSpec wsX7_gather rX7_gather).room s m ([.ref h0, .ref g0, .int p1, .int p2] : List Value).toArray below meth c H locs 0 0 (MQ below (va_Qv (fun (u : Int32 × Int32 × Int32 × (Nat → Int32) × (Nat → Int32) × (Nat → Int32)) => u = res) (fun u t => qW G A (wSwP G h0 af s0 aa ab ac ae b0 ba bb bc be g0 bX bY bZ nf ns nb n2 fac lx gx ly gy lz gz u.1 u.2.1 BE ss SA SB SC SE bs BA BB BC BD u.2.2.1 u.2.2.2.1 u.2.2.2.2.1 u.2.2.2.2.2) t) A) ([.ref h0, .ref g0, .int p1, .int p2] : List Value).toArray s 0 0 A) (F0 m 21 ls [])) → ∀ (k110 : Int32 → Int32 → Int32 → Int32 → Int32 → Int32 → (Nat → Int32) → (Nat → Int32) → (Nat → Int32) → Option (Int32 × Int32 × Int32 × (Nat → Int32) × (Nat → Int32) × (Nat → Int32))), (∀ (a2 : Int32) (a3 : Int32) (a4 : Int32) (mlo : Int32) (mhi : Int32) (msz1 : Int32) (mU : Nat → Int32) (mV : Nat → Int32) (mT : Nat → Int32) (H : Heap) (locs : List Loc) (ls : Array Slot), k110 a2 a3 a4 mlo mhi msz1 mU mV mT = some res → va_P (gD G) vwCl (wSwP G h0 af s0 aa ab ac ae b0 ba bb bc be g0 bX bY bZ nf ns nb n2 fac lx gx ly gy lz gz mlo mhi BE ss SA SB SC SE bs BA BB BC BD msz1 mU mV mT) H → va_D A (wSwP G h0 af s0 aa ab ac ae b0 ba bb bc be g0 bX bY bZ nf ns nb n2 fac lx gx ly gy lz gz mlo mhi BE ss SA SB SC SE bs BA BB BC BD msz1 mU mV mT) → va_S A s.heap H locs → lv_has ls 7 [(0, .ref h0), (1, .ref g0), (2, .int a2), (3, .int a3), (4, .int a4)] → W p l e (headSpec wsX7_gather rX7_gather).room s m ([.ref h0, .ref g0, .int p1, .int p2] : List Value).toArray below meth c H locs 0 0 (MQ below (va_Qv (fun (u : Int32 × Int32 × Int32 × (Nat → Int32) × (Nat → Int32) × (Nat → Int32)) => u = res) (fun u t => qW G A (wSwP G h0 af s0 aa ab ac ae b0 ba bb bc be g0 bX bY bZ nf ns nb n2 fac lx gx ly gy lz gz u.1 u.2.1 BE ss SA SB SC SE bs BA BB BC BD u.2.2.1 u.2.2.2.1 u.2.2.2.2.1 u.2.2.2.2.2) t) A) ([.ref h0, .ref g0, .int p1, .int p2] : List Value).toArray s 0 0 A) (F0 m 110 ls [])) → ∀ (a2 : Int32) (a3 : Int32) (a4 : Int32) (a5 : Int32) (mlo : Int32) (mhi : Int32) (msz1 : Int32) (mU : Nat → Int32) (mV : Nat → Int32) (mT : Nat → Int32) (H : Heap) (locs : List Loc) (ls : Array Slot), JX7_gather_54 ns nb n2 fac lx gx ly gy lz gz ss SA SB SC SE bs BA BB BC BD k21 k110 a2 a3 a4 a5 mlo mhi msz1 mU mV mT = some res → va_P (gD G) vwCl (wSwP G h0 af s0 aa ab ac ae b0 ba bb bc be g0 bX bY bZ nf ns nb n2 fac lx gx ly gy lz gz mlo mhi BE ss SA SB SC SE bs BA BB BC BD msz1 mU mV mT) H → va_D A (wSwP G h0 af s0 aa ab ac ae b0 ba bb bc be g0 bX bY bZ nf ns nb n2 fac lx gx ly gy lz gz mlo mhi BE ss SA SB SC SE bs BA BB BC BD msz1 mU mV mT) → va_S A s.heap H locs → lv_has ls 7 [(0, .ref h0), (1, .ref g0), (2, .int a2), (3, .int a3), (4, .int a4), (5, .int a5)] → W p l e (headSpec wsX7_gather rX7_gather).room s m ([.ref h0, .ref g0, .int p1, .int p2] : List Value).toArray below meth c H locs 0 0 (MQ below (va_Qv (fun (u : Int32 × Int32 × Int32 × (Nat → Int32) × (Nat → Int32) × (Nat → Int32)) => u = res) (fun u t => qW G A (wSwP G h0 af s0 aa ab ac ae b0 ba bb bc be g0 bX bY bZ nf ns nb n2 fac lx gx ly gy lz gz u.1 u.2.1 BE ss SA SB SC SE bs BA BB BC BD u.2.2.1 u.2.2.2.1 u.2.2.2.2.1 u.2.2.2.2.2) t) A) ([.ref h0, .ref g0, .int p1, .int p2] : List Value).toArray s 0 0 A) (F0 m 54 ls []) := by
    intro k21 hk21 k110 hk110
    intro a2 a3 a4 a5 mlo mhi msz1 mU mV mT H locs ls hF hP hD hS hl
    unfold JX7_gather_54 at hF
    refine lv_aload_n hx hb dX7_gather_54 rfl (lv_at hl 0 rfl) ?_
    refine lv_iload hx hb dX7_gather_55 (lv_at hl 4 rfl) ?_
    refine lv_iload hx hb dX7_gather_57 (lv_at hl 5 rfl) ?_
    obtain ⟨v_5, hv_5, hF⟩ := bd_s hF
    refine rw_ve (wf := (fun (u : Int32 × Int32) => (wSw G h0 af s0 aa ab ac ae b0 ba bb bc be nf ns nb fac lx gx ly gy lz gz u.1 u.2 BE ss SA SB SC SE bs BA BB BC BD))) (wr := [(g0, .inr (4, [.ref bX, .ref bY, .ref bZ, .int msz1])), (bX, .inl (gI G, n2, .inl mU)), (bY, .inl (gI G, n2, .inl mV)), (bZ, .inl (gI G, n2, .inl mT))]) (va_runV (As := [.int a4, .int a5]) (rest := []) ⟨hx, hb, hml, hown, hts⟩ (kX7_look l G h0 af s0 aa ab ac ae b0 ba bb bc be H.size nf ns nb fac lx gx ly gy lz gz mlo mhi BE ss SA SB SC SE bs BA BB BC BD a4 a5 v_5 hv_5) (cwV 2 hts gX7_gather_X7_look rfl rfl rfl (by decide +kernel) ⟨Nat.le_of_ble_eq_true rfl, Nat.le_of_ble_eq_true rfl⟩) (pvW (q0 := 0) 7 hK (hP.sub (ws' := (wSw G h0 af s0 aa ab ac ae b0 ba bb bc be nf ns nb fac lx gx ly gy lz gz mlo mhi BE ss SA SB SC SE bs BA BB BC BD)) [0, 1, 2, 3, 4, 5, 6, 7, 8, 9, 10, 11] rfl) (hD.sub (ws' := (wSw G h0 af s0 aa ab ac ae b0 ba bb bc be nf ns nb fac lx gx ly gy lz gz mlo mhi BE ss SA SB SC SE bs BA BB BC BD)) [0, 1, 2, 3, 4, 5, 6, 7, 8, 9, 10, 11] (by decide) rfl) rfl rfl) rfl rfl hl.1 rfl (lv_room (Nat.le_of_ble_eq_true rfl)) dX7_gather_59 ⟨Nat.le_of_ble_eq_true rfl, Nat.le_of_ble_eq_true rfl⟩) hP hD hS hA [0, 1, 2, 3, 4, 5, 6, 7, 8, 9, 10, 11] [12, 13, 14, 15] rfl rfl (by decide) (by decide) (fun H locs  hP hD hS => ?_)
    have hP : va_P (gD G) vwCl (wSwP G h0 af s0 aa ab ac ae b0 ba bb bc be g0 bX bY bZ nf ns nb n2 fac lx gx ly gy lz gz v_5.1 v_5.2 BE ss SA SB SC SE bs BA BB BC BD msz1 mU mV mT) H := hP.sub [4, 5, 6, 7, 8, 9, 10, 11, 12, 13, 14, 15, 0, 1, 2, 3] rfl
    have hD : va_D A (wSwP G h0 af s0 aa ab ac ae b0 ba bb bc be g0 bX bY bZ nf ns nb n2 fac lx gx ly gy lz gz v_5.1 v_5.2 BE ss SA SB SC SE bs BA BB BC BD msz1 mU mV mT) := hD.sub [4, 5, 6, 7, 8, 9, 10, 11, 12, 13, 14, 15, 0, 1, 2, 3] (by decide) rfl
    refine lv_aload_n hx hb dX7_gather_62 rfl (lv_at hl 0 rfl) ?_
    refine va_get (ci := 7) (v := .int v_5.1) (C := RX7) (T := TX7) (N := 12) hx hb hts hin7 hown hK hP 0 rfl rfl 10 (by decide) hfl64 (fun _ h9 => h9) rfl dX7_gather_63 ?_
    refine lv_istore (lv' := [(6, .int v_5.1), (0, .ref h0), (1, .ref g0), (2, .int a2), (3, .int a3), (4, .int a4), (5, .int a5)]) hx hb dX7_gather_66 hl (by decide) rfl (fun ls hl => ?_)
    refine hL68 _ ?_ FU a2 a3 a4 a5 v_5.1 v_5.1 v_5.2 msz1 mU mV mT _ _ _ hF hP hD hS (lv_sub hl [1, 2, 3, 4, 5, 6, 0] rfl)
    · intro a2 a3 a4 a5 mlo mhi msz1 mU mV mT H locs ls hF hP hD hS hl
      exact hJ104 _ hk21 _ hk110 a2 a3 a4 a5 mlo mhi msz1 mU mV mT _ _ _ hF hP hD hS (lv_sub hl [0, 1, 2, 3, 4, 5] rfl)
  have hJ40 : ∀ (k21 : Int32 → Int32 → Int32 → Int32 → Int32 → Int32 → Int32 → (Nat → Int32) → (Nat → Int32) → (Nat → Int32) → Option (Int32 × Int32 × Int32 × (Nat → Int32) × (Nat → Int32) × (Nat → Int32))), (∀ (a2 : Int32) (a3 : Int32) (a4 : Int32) (a5 : Int32) (mlo : Int32) (mhi : Int32) (msz1 : Int32) (mU : Nat → Int32) (mV : Nat → Int32) (mT : Nat → Int32) (H : Heap) (locs : List Loc) (ls : Array Slot), k21 a2 a3 a4 a5 mlo mhi msz1 mU mV mT = some res → va_P (gD G) vwCl (wSwP G h0 af s0 aa ab ac ae b0 ba bb bc be g0 bX bY bZ nf ns nb n2 fac lx gx ly gy lz gz mlo mhi BE ss SA SB SC SE bs BA BB BC BD msz1 mU mV mT) H → va_D A (wSwP G h0 af s0 aa ab ac ae b0 ba bb bc be g0 bX bY bZ nf ns nb n2 fac lx gx ly gy lz gz mlo mhi BE ss SA SB SC SE bs BA BB BC BD msz1 mU mV mT) → va_S A s.heap H locs → lv_has ls 7 [(0, .ref h0), (1, .ref g0), (2, .int a2), (3, .int a3), (4, .int a4), (5, .int a5)] → W p l e (headSpec wsX7_gather rX7_gather).room s m ([.ref h0, .ref g0, .int p1, .int p2] : List Value).toArray below meth c H locs 0 0 (MQ below (va_Qv (fun (u : Int32 × Int32 × Int32 × (Nat → Int32) × (Nat → Int32) × (Nat → Int32)) => u = res) (fun u t => qW G A (wSwP G h0 af s0 aa ab ac ae b0 ba bb bc be g0 bX bY bZ nf ns nb n2 fac lx gx ly gy lz gz u.1 u.2.1 BE ss SA SB SC SE bs BA BB BC BD u.2.2.1 u.2.2.2.1 u.2.2.2.2.1 u.2.2.2.2.2) t) A) ([.ref h0, .ref g0, .int p1, .int p2] : List Value).toArray s 0 0 A) (F0 m 21 ls [])) → ∀ (k110 : Int32 → Int32 → Int32 → Int32 → Int32 → Int32 → (Nat → Int32) → (Nat → Int32) → (Nat → Int32) → Option (Int32 × Int32 × Int32 × (Nat → Int32) × (Nat → Int32) × (Nat → Int32))), (∀ (a2 : Int32) (a3 : Int32) (a4 : Int32) (mlo : Int32) (mhi : Int32) (msz1 : Int32) (mU : Nat → Int32) (mV : Nat → Int32) (mT : Nat → Int32) (H : Heap) (locs : List Loc) (ls : Array Slot), k110 a2 a3 a4 mlo mhi msz1 mU mV mT = some res → va_P (gD G) vwCl (wSwP G h0 af s0 aa ab ac ae b0 ba bb bc be g0 bX bY bZ nf ns nb n2 fac lx gx ly gy lz gz mlo mhi BE ss SA SB SC SE bs BA BB BC BD msz1 mU mV mT) H → va_D A (wSwP G h0 af s0 aa ab ac ae b0 ba bb bc be g0 bX bY bZ nf ns nb n2 fac lx gx ly gy lz gz mlo mhi BE ss SA SB SC SE bs BA BB BC BD msz1 mU mV mT) → va_S A s.heap H locs → lv_has ls 7 [(0, .ref h0), (1, .ref g0), (2, .int a2), (3, .int a3), (4, .int a4)] → W p l e (headSpec wsX7_gather rX7_gather).room s m ([.ref h0, .ref g0, .int p1, .int p2] : List Value).toArray below meth c H locs 0 0 (MQ below (va_Qv (fun (u : Int32 × Int32 × Int32 × (Nat → Int32) × (Nat → Int32) × (Nat → Int32)) => u = res) (fun u t => qW G A (wSwP G h0 af s0 aa ab ac ae b0 ba bb bc be g0 bX bY bZ nf ns nb n2 fac lx gx ly gy lz gz u.1 u.2.1 BE ss SA SB SC SE bs BA BB BC BD u.2.2.1 u.2.2.2.1 u.2.2.2.2.1 u.2.2.2.2.2) t) A) ([.ref h0, .ref g0, .int p1, .int p2] : List Value).toArray s 0 0 A) (F0 m 110 ls [])) → ∀ (a2 : Int32) (a3 : Int32) (a4 : Int32) (a5 : Int32) (mlo : Int32) (mhi : Int32) (msz1 : Int32) (mU : Nat → Int32) (mV : Nat → Int32) (mT : Nat → Int32) (H : Heap) (locs : List Loc) (ls : Array Slot), JX7_gather_40 ns nb n2 fac lx gx ly gy lz gz ss SA SB SC SE bs BA BB BC BD k21 k110 a2 a3 a4 a5 mlo mhi msz1 mU mV mT = some res → va_P (gD G) vwCl (wSwP G h0 af s0 aa ab ac ae b0 ba bb bc be g0 bX bY bZ nf ns nb n2 fac lx gx ly gy lz gz mlo mhi BE ss SA SB SC SE bs BA BB BC BD msz1 mU mV mT) H → va_D A (wSwP G h0 af s0 aa ab ac ae b0 ba bb bc be g0 bX bY bZ nf ns nb n2 fac lx gx ly gy lz gz mlo mhi BE ss SA SB SC SE bs BA BB BC BD msz1 mU mV mT) → va_S A s.heap H locs → lv_has ls 7 [(0, .ref h0), (1, .ref g0), (2, .int a2), (3, .int a3), (4, .int a4), (5, .int a5)] → W p l e (headSpec wsX7_gather rX7_gather).room s m ([.ref h0, .ref g0, .int p1, .int p2] : List Value).toArray below meth c H locs 0 0 (MQ below (va_Qv (fun (u : Int32 × Int32 × Int32 × (Nat → Int32) × (Nat → Int32) × (Nat → Int32)) => u = res) (fun u t => qW G A (wSwP G h0 af s0 aa ab ac ae b0 ba bb bc be g0 bX bY bZ nf ns nb n2 fac lx gx ly gy lz gz u.1 u.2.1 BE ss SA SB SC SE bs BA BB BC BD u.2.2.1 u.2.2.2.1 u.2.2.2.2.1 u.2.2.2.2.2) t) A) ([.ref h0, .ref g0, .int p1, .int p2] : List Value).toArray s 0 0 A) (F0 m 40 ls []) := by
    intro k21 hk21 k110 hk110
    intro a2 a3 a4 a5 mlo mhi msz1 mU mV mT H locs ls hF hP hD hS hl
    unfold JX7_gather_40 at hF
    refine lv_iload_n hx hb dX7_gather_40 rfl (lv_at hl 2 rfl) ?_
    refine lv_iconst (v := 1) hx hb dX7_gather_41 (by decide) ?_
    refine lv_icmp_ne (tgt := 54) hx hb dX7_gather_42 (by decide) (fun c_4 => ?_) (fun c_4 => ?_)
    · replace hF := it_n c_4 hF
      exact hJ54 _ hk21 _ hk110 a2 a3 a4 a5 mlo mhi msz1 mU mV mT _ _ _ hF hP hD hS (lv_sub hl [0, 1, 2, 3, 4, 5] rfl)
    · replace hF := it_p c_4 hF
      refine lv_iload hx hb dX7_gather_45 (lv_at hl 5 rfl) ?_
      refine lv_iload_n hx hb dX7_gather_47 rfl (lv_at hl 3 rfl) ?_
      refine lv_icmp_eq (tgt := 54) hx hb dX7_gather_48 (by decide) (fun c_10 => ?_) (fun c_10 => ?_)
      · replace hF := it_p c_10 hF
        exact hJ54 _ hk21 _ hk110 a2 a3 a4 a5 mlo mhi msz1 mU mV mT _ _ _ hF hP hD hS (lv_sub hl [0, 1, 2, 3, 4, 5] rfl)
      · replace hF := it_n c_10 hF
        refine lv_goto (tgt := 104) hx hb dX7_gather_51 (by decide) ?_
        exact hJ104 _ hk21 _ hk110 a2 a3 a4 a5 mlo mhi msz1 mU mV mT _ _ _ hF hP hD hS (lv_sub hl [0, 1, 2, 3, 4, 5] rfl)
  have hL21 : ∀ (k110 : Int32 → Int32 → Int32 → Int32 → Int32 → Int32 → (Nat → Int32) → (Nat → Int32) → (Nat → Int32) → Option (Int32 × Int32 × Int32 × (Nat → Int32) × (Nat → Int32) × (Nat → Int32))), (∀ (a2 : Int32) (a3 : Int32) (a4 : Int32) (mlo : Int32) (mhi : Int32) (msz1 : Int32) (mU : Nat → Int32) (mV : Nat → Int32) (mT : Nat → Int32) (H : Heap) (locs : List Loc) (ls : Array Slot), k110 a2 a3 a4 mlo mhi msz1 mU mV mT = some res → va_P (gD G) vwCl (wSwP G h0 af s0 aa ab ac ae b0 ba bb bc be g0 bX bY bZ nf ns nb n2 fac lx gx ly gy lz gz mlo mhi BE ss SA SB SC SE bs BA BB BC BD msz1 mU mV mT) H → va_D A (wSwP G h0 af s0 aa ab ac ae b0 ba bb bc be g0 bX bY bZ nf ns nb n2 fac lx gx ly gy lz gz mlo mhi BE ss SA SB SC SE bs BA BB BC BD msz1 mU mV mT) → va_S A s.heap H locs → lv_has ls 7 [(0, .ref h0), (1, .ref g0), (2, .int a2), (3, .int a3), (4, .int a4)] → W p l e (headSpec wsX7_gather rX7_gather).room s m ([.ref h0, .ref g0, .int p1, .int p2] : List Value).toArray below meth c H locs 0 0 (MQ below (va_Qv (fun (u : Int32 × Int32 × Int32 × (Nat → Int32) × (Nat → Int32) × (Nat → Int32)) => u = res) (fun u t => qW G A (wSwP G h0 af s0 aa ab ac ae b0 ba bb bc be g0 bX bY bZ nf ns nb n2 fac lx gx ly gy lz gz u.1 u.2.1 BE ss SA SB SC SE bs BA BB BC BD u.2.2.1 u.2.2.2.1 u.2.2.2.2.1 u.2.2.2.2.2) t) A) ([.ref h0, .ref g0, .int p1, .int p2] : List Value).toArray s 0 0 A) (F0 m 110 ls [])) → ∀ (k : Nat), ∀ (a2 : Int32) (a3 : Int32) (a4 : Int32) (a5 : Int32) (mlo : Int32) (mhi : Int32) (msz1 : Int32) (mU : Nat → Int32) (mV : Nat → Int32) (mT : Nat → Int32) (H : Heap) (locs : List Loc) (ls : Array Slot), LX7_gather_21 ns nb n2 fac lx gx ly gy lz gz ss SA SB SC SE bs BA BB BC BD k110 k a2 a3 a4 a5 mlo mhi msz1 mU mV mT = some res → va_P (gD G) vwCl (wSwP G h0 af s0 aa ab ac ae b0 ba bb bc be g0 bX bY bZ nf ns nb n2 fac lx gx ly gy lz gz mlo mhi BE ss SA SB SC SE bs BA BB BC BD msz1 mU mV mT) H → va_D A (wSwP G h0 af s0 aa ab ac ae b0 ba bb bc be g0 bX bY bZ nf ns nb n2 fac lx gx ly gy lz gz mlo mhi BE ss SA SB SC SE bs BA BB BC BD msz1 mU mV mT) → va_S A s.heap H locs → lv_has ls 7 [(0, .ref h0), (1, .ref g0), (2, .int a2), (3, .int a3), (4, .int a4), (5, .int a5)] → W p l e (headSpec wsX7_gather rX7_gather).room s m ([.ref h0, .ref g0, .int p1, .int p2] : List Value).toArray below meth c H locs 0 0 (MQ below (va_Qv (fun (u : Int32 × Int32 × Int32 × (Nat → Int32) × (Nat → Int32) × (Nat → Int32)) => u = res) (fun u t => qW G A (wSwP G h0 af s0 aa ab ac ae b0 ba bb bc be g0 bX bY bZ nf ns nb n2 fac lx gx ly gy lz gz u.1 u.2.1 BE ss SA SB SC SE bs BA BB BC BD u.2.2.1 u.2.2.2.1 u.2.2.2.2.1 u.2.2.2.2.2) t) A) ([.ref h0, .ref g0, .int p1, .int p2] : List Value).toArray s 0 0 A) (F0 m 21 ls []) := by
    intro k110 hk110
    intro k
    induction k with
    | zero =>
      intro a2 a3 a4 a5 mlo mhi msz1 mU mV mT H locs ls hF hP hD hS hl
      rw [LX7_gather_21] at hF
      cases hF
    | succ k ih =>
      intro a2 a3 a4 a5 mlo mhi msz1 mU mV mT H locs ls hF hP hD hS hl
      rw [LX7_gather_21] at hF
      refine lv_iload hx hb dX7_gather_21 (lv_at hl 5 rfl) ?_
      refine lv_aload_n hx hb dX7_gather_23 rfl (lv_at hl 0 rfl) ?_
      refine va_get (ci := 7) (v := .int gy) (C := RX7) (T := TX7) (N := 12) hx hb hts hin7 hown hK hP 0 rfl rfl 6 (by decide) hfl31 (fun _ h9 => h9) rfl dX7_gather_24 ?_
      refine lv_icmp_gt (tgt := 110) hx hb dX7_gather_27 (by decide) (fun c_2 => ?_) (fun c_2 => ?_)
      · replace hF := it_p c_2 hF
        exact hk110 a2 a3 a4 mlo mhi msz1 mU mV mT _ _ _ hF hP hD hS (lv_sub hl [0, 1, 2, 3, 4] rfl)
      · replace hF := it_n c_2 hF
        refine lv_iload_n hx hb dX7_gather_30 rfl (lv_at hl 2 rfl) ?_
        refine lv_if_ne (tgt := 40) hx hb dX7_gather_31 (by decide) (fun c_3 => ?_) (fun c_3 => ?_)
        · replace hF := it_n c_3 hF
          exact hJ40 _ ih _ hk110 a2 a3 a4 a5 mlo mhi msz1 mU mV mT _ _ _ hF hP hD hS (lv_sub hl [0, 1, 2, 3, 4, 5] rfl)
        · replace hF := it_p c_3 hF
          refine lv_iload hx hb dX7_gather_34 (lv_at hl 4 rfl) ?_
          refine lv_iload_n hx hb dX7_gather_36 rfl (lv_at hl 3 rfl) ?_
          refine lv_icmp_ne (tgt := 104) hx hb dX7_gather_37 (by decide) (fun c_11 => ?_) (fun c_11 => ?_)
          · replace hF := it_n c_11 hF
            exact hJ104 _ ih _ hk110 a2 a3 a4 a5 mlo mhi msz1 mU mV mT _ _ _ hF hP hD hS (lv_sub hl [0, 1, 2, 3, 4, 5] rfl)
          · replace hF := it_p c_11 hF
            exact hJ40 _ ih _ hk110 a2 a3 a4 a5 mlo mhi msz1 mU mV mT _ _ _ hF hP hD hS (lv_sub hl [0, 1, 2, 3, 4, 5] rfl)
  have hL6 : ∀ (k : Nat), ∀ (a2 : Int32) (a3 : Int32) (a4 : Int32) (mlo : Int32) (mhi : Int32) (msz1 : Int32) (mU : Nat → Int32) (mV : Nat → Int32) (mT : Nat → Int32) (H : Heap) (locs : List Loc) (ls : Array Slot), LX7_gather_6 ns nb n2 fac lx gx ly gy lz gz ss SA SB SC SE bs BA BB BC BD k a2 a3 a4 mlo mhi msz1 mU mV mT = some res → va_P (gD G) vwCl (wSwP G h0 af s0 aa ab ac ae b0 ba bb bc be g0 bX bY bZ nf ns nb n2 fac lx gx ly gy lz gz mlo mhi BE ss SA SB SC SE bs BA BB BC BD msz1 mU mV mT) H → va_D A (wSwP G h0 af s0 aa ab ac ae b0 ba bb bc be g0 bX bY bZ nf ns nb n2 fac lx gx ly gy lz gz mlo mhi BE ss SA SB SC SE bs BA BB BC BD msz1 mU mV mT) → va_S A s.heap H locs → lv_has ls 7 [(0, .ref h0), (1, .ref g0), (2, .int a2), (3, .int a3), (4, .int a4)] → W p l e (headSpec wsX7_gather rX7_gather).room s m ([.ref h0, .ref g0, .int p1, .int p2] : List Value).toArray below meth c H locs 0 0 (MQ below (va_Qv (fun (u : Int32 × Int32 × Int32 × (Nat → Int32) × (Nat → Int32) × (Nat → Int32)) => u = res) (fun u t => qW G A (wSwP G h0 af s0 aa ab ac ae b0 ba bb bc be g0 bX bY bZ nf ns nb n2 fac lx gx ly gy lz gz u.1 u.2.1 BE ss SA SB SC SE bs BA BB BC BD u.2.2.1 u.2.2.2.1 u.2.2.2.2.1 u.2.2.2.2.2) t) A) ([.ref h0, .ref g0, .int p1, .int p2] : List Value).toArray s 0 0 A) (F0 m 6 ls []) := by
    intro k
    induction k with
    | zero =>
      intro a2 a3 a4 mlo mhi msz1 mU mV mT H locs ls hF hP hD hS hl
      rw [LX7_gather_6] at hF
      cases hF
    | succ k ih =>
      intro a2 a3 a4 mlo mhi msz1 mU mV mT H locs ls hF hP hD hS hl
      rw [LX7_gather_6] at hF
      refine lv_iload hx hb dX7_gather_6 (lv_at hl 4 rfl) ?_
      refine lv_aload_n hx hb dX7_gather_8 rfl (lv_at hl 0 rfl) ?_
      refine va_get (ci := 7) (v := .int gx) (C := RX7) (T := TX7) (N := 12) hx hb hts hin7 hown hK hP 0 rfl rfl 4 (by decide) hfl25 (fun _ h9 => h9) rfl dX7_gather_9 ?_
      refine lv_icmp_gt (tgt := 116) hx hb dX7_gather_12 (by decide) (fun c_1 => ?_) (fun c_1 => ?_)
      · replace hF := it_p c_1 hF
        exact W.vret hx hb hr (fun t ht hW => ⟨⟨(mlo, mhi, msz1, mU, mV, mT), rfl, so_e hF, qW_mk ht hP hK hW hD⟩, hS.F ht⟩) hS.2.2 dX7_gather_116
      · replace hF := it_n c_1 hF
        refine lv_aload_n hx hb dX7_gather_15 rfl (lv_at hl 0 rfl) ?_
        refine va_get (ci := 7) (v := .int ly) (C := RX7) (T := TX7) (N := 12) hx hb hts hin7 hown hK hP 0 rfl rfl 5 (by decide) hfl28 (fun _ h9 => h9) rfl dX7_gather_16 ?_
        refine lv_istore (lv' := [(5, .int ly), (0, .ref h0), (1, .ref g0), (2, .int a2), (3, .int a3), (4, .int a4)]) hx hb dX7_gather_19 hl (by decide) rfl (fun ls hl => ?_)
        refine hL21 _ ?_ FU a2 a3 a4 ly mlo mhi msz1 mU mV mT _ _ _ hF hP hD hS (lv_sub hl [1, 2, 3, 4, 5, 0] rfl)
        · intro a2 a3 a4 mlo mhi msz1 mU mV mT H locs ls hF hP hD hS hl
          refine lv_iinc (v := a4 + 1) (lv' := [(4, .int (a4 + 1)), (0, .ref h0), (1, .ref g0), (2, .int a2), (3, .int a3)]) hx hb dX7_gather_110 hl (k := 4) rfl rfl (by decide) rfl (fun ls hl => ?_)
          refine lv_goto (tgt := 6) hx hb dX7_gather_113 (by decide) ?_
          exact ih a2 a3 (a4 + 1) mlo mhi msz1 mU mV mT _ _ _ hF hP hD hS (lv_sub hl [1, 2, 3, 4, 0] rfl)
  unfold fX7_gather at hF
  refine lv_aload_n hx hb dX7_gather_0 rfl (lv_at hl 0 rfl) ?_
  refine va_get (ci := 7) (v := .int lx) (C := RX7) (T := TX7) (N := 12) hx hb hts hin7 hown hK hP 0 rfl rfl 3 (by decide) hfl22 (fun _ h9 => h9) rfl dX7_gather_1 ?_
  refine lv_istore (lv' := [(4, .int lx), (0, .ref h0), (1, .ref g0), (2, .int p1), (3, .int p2)]) hx hb dX7_gather_4 hl (by decide) rfl (fun ls hl => ?_)
  exact hL6 FU p1 p2 lx lo hi sz1 U V T _ _ _ hF hP hD hS (lv_sub hl [1, 2, 3, 4, 0] rfl)
