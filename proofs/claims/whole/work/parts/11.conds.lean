abbrev wCnd (G : GT) (h0 aa ab ac ae : Nat) (n : Nat) (sz0 : Int32) (CA : Nat → Int32) (CB : Nat → Int32) (CC : Nat → Int32) (CE : Nat → Int32) : va_W := [(h0, .inr (1, [.ref aa, .ref ab, .ref ac, .ref ae, .int sz0])), (aa, .inl (gI G, n, .inl CA)), (ab, .inl (gI G, n, .inl CB)), (ac, .inl (gI G, n, .inl CC)), (ae, .inl (gI G, n, .inl CE))]
abbrev wCndSt (G : GT) (h0 aa ab ac ae g0 : Nat) (n : Nat) (sz0 : Int32) (CA : Nat → Int32) (CB : Nat → Int32) (CC : Nat → Int32) (CE : Nat → Int32) (u1 : Int32) (u2 : Int32) (u3 : Int32) : va_W := [(h0, .inr (1, [.ref aa, .ref ab, .ref ac, .ref ae, .int sz0])), (aa, .inl (gI G, n, .inl CA)), (ab, .inl (gI G, n, .inl CB)), (ac, .inl (gI G, n, .inl CC)), (ae, .inl (gI G, n, .inl CE)), (g0, .inr (6, [.int u1, .int u2, .int u3]))]
abbrev wCndPt (G : GT) (h0 aa ab ac ae g0 bX bY bZ : Nat) (n n2 : Nat) (sz0 : Int32) (CA : Nat → Int32) (CB : Nat → Int32) (CC : Nat → Int32) (CE : Nat → Int32) (sz1 : Int32) (U : Nat → Int32) (V : Nat → Int32) (T : Nat → Int32) : va_W := [(h0, .inr (1, [.ref aa, .ref ab, .ref ac, .ref ae, .int sz0])), (aa, .inl (gI G, n, .inl CA)), (ab, .inl (gI G, n, .inl CB)), (ac, .inl (gI G, n, .inl CC)), (ae, .inl (gI G, n, .inl CE)), (g0, .inr (4, [.ref bX, .ref bY, .ref bZ, .int sz1])), (bX, .inl (gI G, n2, .inl U)), (bY, .inl (gI G, n2, .inl V)), (bZ, .inl (gI G, n2, .inl T))]
abbrev wStp (G : GT) (h0 : Nat) (x1 : Int32) (x2 : Int32) (x3 : Int32) : va_W := [(h0, .inr (6, [.int x1, .int x2, .int x3]))]
abbrev wStp2 (G : GT) (h0 g0 : Nat) (x1 : Int32) (x2 : Int32) (x3 : Int32) (y1 : Int32) (y2 : Int32) (y3 : Int32) : va_W := [(h0, .inr (6, [.int x1, .int x2, .int x3])), (g0, .inr (6, [.int y1, .int y2, .int y3]))]
abbrev wStp3 (G : GT) (h0 g0 i0 : Nat) (x1 : Int32) (x2 : Int32) (x3 : Int32) (y1 : Int32) (y2 : Int32) (y3 : Int32) (z1 : Int32) (z2 : Int32) (z3 : Int32) : va_W := [(h0, .inr (6, [.int x1, .int x2, .int x3])), (g0, .inr (6, [.int y1, .int y2, .int y3])), (i0, .inr (6, [.int z1, .int z2, .int z3]))]
abbrev wStpPt (G : GT) (h0 g0 bX bY bZ : Nat) (n2 : Nat) (x1 : Int32) (x2 : Int32) (x3 : Int32) (sz1 : Int32) (U : Nat → Int32) (V : Nat → Int32) (T : Nat → Int32) : va_W := [(h0, .inr (6, [.int x1, .int x2, .int x3])), (g0, .inr (4, [.ref bX, .ref bY, .ref bZ, .int sz1])), (bX, .inl (gI G, n2, .inl U)), (bY, .inl (gI G, n2, .inl V)), (bZ, .inl (gI G, n2, .inl T))]
abbrev wShf (G : GT) (h0 ac : Nat) (n : Nat) (la : Int32) (si : Int32) (CE : Nat → Int64) : va_W := [(h0, .inr (5, [.ref ac, .int la, .int si])), (ac, .inl (gJ G, n, .inr (.inl CE)))]
abbrev wGro (G : GT) (h0 an : Nat) (dg : Int32) (NU : Nat → Int32) : va_W := [(h0, .inr (2, [.ref an, .int dg])), (an, .inl (gI G, 4, .inl NU))]
def fX1_part (n : Nat) (sz0 : Int32) (CA : Nat → Int32) (CB : Nat → Int32) (CC : Nat → Int32) (CE : Nat → Int32) (p1 : Int32) (p2 : Int32) : Option (Int32) :=
  (if p1 < 0 then (some 1000) else (if p1 < sz0 then (if p2 = 0 then (gd_in p1 n (some (CA p1.toNatClampNeg))) else (if p2 = 1 then (gd_in p1 n (some (CB p1.toNatClampNeg))) else (if p2 = 2 then (gd_in p1 n (some (CC p1.toNatClampNeg))) else (gd_in p1 n (some (CE p1.toNatClampNeg)))))) else (some 1000)))
abbrev rX1_part : Room := { frames := 0, cells := 0, slots := 0, locals := 0 }
set_option maxHeartbeats 40000000 in
set_option maxRecDepth 100000 in
theorem kX1_part (l : Launch) (G : GT) (h0 aa ab ac ae : Nat) (n : Nat) (sz0 : Int32) (CA : Nat → Int32) (CB : Nat → Int32) (CC : Nat → Int32) (CE : Nat → Int32) (p1 : Int32) (p2 : Int32) (res : Int32) (hF : fX1_part n sz0 CA CB CC CE p1 p2 = some res) : Met l yX1_part wsX1_part rX1_part (va_Pc [.ref h0, .int p1, .int p2] (pR G (wCnd G h0 aa ab ac ae n sz0 CA CB CC CE))) (vp_Si (fun r => r = res)) 0 0 (fun _ => False) := by
  refine Met.ofW (cc := cX1_part) (maxL := 3) (ret := (some .int)) (by decide) rfl ?_
  intro p e s m args below meth c s₁ B hml hv
  obtain ⟨rfl, hP, hK⟩ := hv
  have hx := B.exec
  have hb := B.bytes
  have hr := B.returns
  have hts := atoms_spec (ws := wsX1_part) B.pre
  have hown : s.vm.findClass RX1 = some m.cls := findClass_of_methodNamed B.named
  have hlocks := B.notSynchronized
  have hin1 : ∀ w ∈ u_ws RX1 TX1 5, w ∈ wsX1_part := by decide +kernel
  have hfl30 := hts (.fieldLink RX1 30 "SwellBodies$Conditions" "size" "I") (by decide +kernel)
  have hfl15 := hts (.fieldLink RX1 15 "SwellBodies$Conditions" "a" "[I") (by decide +kernel)
  have hfl21 := hts (.fieldLink RX1 21 "SwellBodies$Conditions" "b" "[I") (by decide +kernel)
  have hfl24 := hts (.fieldLink RX1 24 "SwellBodies$Conditions" "c" "[I") (by decide +kernel)
  have hfl27 := hts (.fieldLink RX1 27 "SwellBodies$Conditions" "e" "[I") (by decide +kernel)
  have hl := lv_entry ([.ref h0, .int p1, .int p2]) (n := 3) (Nat.le_of_ble_eq_true rfl)
  rw [lg_entry_eq]
  generalize (lg_sl ([.ref h0, .int p1, .int p2]) ++ List.replicate (3 - (lg_sl ([.ref h0, .int p1, .int p2])).length) Slot.unset).toArray = ls at hl ⊢
  have hl : lv_has ls 3 [(0, .ref h0), (1, .int p1), (2, .int p2)] := hl
  unfold fX1_part at hF
  refine lv_iload_n hx hb dX1_part_0 rfl (lv_at hl 1 rfl) ?_
  refine lv_if_lt (tgt := 12) hx hb dX1_part_1 (by decide) (fun c_1 => ?_) (fun c_1 => ?_)
  · replace hF := it_p c_1 hF
    refine lv_sipush (v := 1000) hx hb dX1_part_12 (by decide) ?_
    exact W.iret (v := 1000) hx hb hr  (fun t ht hW => ⟨1000, rfl, (so_e hF), ht⟩) (fun q h => absurd h List.not_mem_nil) dX1_part_15
  · replace hF := it_n c_1 hF
    refine lv_iload_n hx hb dX1_part_4 rfl (lv_at hl 1 rfl) ?_
    refine lv_aload_n hx hb dX1_part_5 rfl (lv_at hl 0 rfl) ?_
    refine va_get (ci := 1) (v := .int sz0) (C := RX1) (T := TX1) (N := 5) hx hb hts hin1 hown hK hP 0 rfl rfl 4 (by decide) hfl30 (fun _ h9 => h9) rfl dX1_part_6 ?_
    refine lv_icmp_lt (tgt := 16) hx hb dX1_part_9 (by decide) (fun c_2 => ?_) (fun c_2 => ?_)
    · replace hF := it_p c_2 hF
      refine lv_iload_n hx hb dX1_part_16 rfl (lv_at hl 2 rfl) ?_
      by_cases c_3 : p2 = 0
      · replace hF := it_p c_3 hF
        refine lv_tableIn (off := 27) (tgt := 44) hx hb dX1_part_17 (by rw [c_3]; decide) (by rw [c_3]; decide) (by rw [c_3]; decide) (by decide) ?_
        refine lv_aload_n hx hb dX1_part_44 rfl (lv_at hl 0 rfl) ?_
        refine va_get (ci := 1) (v := .ref aa) (C := RX1) (T := TX1) (N := 5) hx hb hts hin1 hown hK hP 0 rfl rfl 0 (by decide) hfl15 (fun _ h9 => h9) rfl dX1_part_45 ?_
        refine lv_iload_n hx hb dX1_part_48 rfl (lv_at hl 1 rfl) ?_
        obtain ⟨hi_4, hF⟩ := gd_in_s hF
        refine va_iald hx hb hK hP 1 0 rfl rfl hi_4 dX1_part_49 ?_
        exact W.iret (v := CA p1.toNatClampNeg) hx hb hr  (fun t ht hW => ⟨CA p1.toNatClampNeg, rfl, (so_e hF), ht⟩) (fun q h => absurd h List.not_mem_nil) dX1_part_50
      · replace hF := it_n c_3 hF
        by_cases c_5 : p2 = 1
        · replace hF := it_p c_5 hF
          refine lv_tableIn (off := 34) (tgt := 51) hx hb dX1_part_17 (by rw [c_5]; decide) (by rw [c_5]; decide) (by rw [c_5]; decide) (by decide) ?_
          refine lv_aload_n hx hb dX1_part_51 rfl (lv_at hl 0 rfl) ?_
          refine va_get (ci := 1) (v := .ref ab) (C := RX1) (T := TX1) (N := 5) hx hb hts hin1 hown hK hP 0 rfl rfl 1 (by decide) hfl21 (fun _ h9 => h9) rfl dX1_part_52 ?_
          refine lv_iload_n hx hb dX1_part_55 rfl (lv_at hl 1 rfl) ?_
          obtain ⟨hi_6, hF⟩ := gd_in_s hF
          refine va_iald hx hb hK hP 2 0 rfl rfl hi_6 dX1_part_56 ?_
          exact W.iret (v := CB p1.toNatClampNeg) hx hb hr  (fun t ht hW => ⟨CB p1.toNatClampNeg, rfl, (so_e hF), ht⟩) (fun q h => absurd h List.not_mem_nil) dX1_part_57
        · replace hF := it_n c_5 hF
          by_cases c_7 : p2 = 2
          · replace hF := it_p c_7 hF
            refine lv_tableIn (off := 41) (tgt := 58) hx hb dX1_part_17 (by rw [c_7]; decide) (by rw [c_7]; decide) (by rw [c_7]; decide) (by decide) ?_
            refine lv_aload_n hx hb dX1_part_58 rfl (lv_at hl 0 rfl) ?_
            refine va_get (ci := 1) (v := .ref ac) (C := RX1) (T := TX1) (N := 5) hx hb hts hin1 hown hK hP 0 rfl rfl 2 (by decide) hfl24 (fun _ h9 => h9) rfl dX1_part_59 ?_
            refine lv_iload_n hx hb dX1_part_62 rfl (lv_at hl 1 rfl) ?_
            obtain ⟨hi_8, hF⟩ := gd_in_s hF
            refine va_iald hx hb hK hP 3 0 rfl rfl hi_8 dX1_part_63 ?_
            exact W.iret (v := CC p1.toNatClampNeg) hx hb hr  (fun t ht hW => ⟨CC p1.toNatClampNeg, rfl, (so_e hF), ht⟩) (fun q h => absurd h List.not_mem_nil) dX1_part_64
          · replace hF := it_n c_7 hF
            refine lv_tableOut (tgt := 65) hx hb dX1_part_17 (by have e0 : p2.toInt ≠ 0 := ne_t c_3; have e1 : p2.toInt ≠ 1 := ne_t c_5; have e2 : p2.toInt ≠ 2 := ne_t c_7; omega) (by decide) ?_
            refine lv_aload_n hx hb dX1_part_65 rfl (lv_at hl 0 rfl) ?_
            refine va_get (ci := 1) (v := .ref ae) (C := RX1) (T := TX1) (N := 5) hx hb hts hin1 hown hK hP 0 rfl rfl 3 (by decide) hfl27 (fun _ h9 => h9) rfl dX1_part_66 ?_
            refine lv_iload_n hx hb dX1_part_69 rfl (lv_at hl 1 rfl) ?_
            obtain ⟨hi_9, hF⟩ := gd_in_s hF
            refine va_iald hx hb hK hP 4 0 rfl rfl hi_9 dX1_part_70 ?_
            exact W.iret (v := CE p1.toNatClampNeg) hx hb hr  (fun t ht hW => ⟨CE p1.toNatClampNeg, rfl, (so_e hF), ht⟩) (fun q h => absurd h List.not_mem_nil) dX1_part_71
    · replace hF := it_n c_2 hF
      refine lv_sipush (v := 1000) hx hb dX1_part_12 (by decide) ?_
      exact W.iret (v := 1000) hx hb hr  (fun t ht hW => ⟨1000, rfl, (so_e hF), ht⟩) (fun q h => absurd h List.not_mem_nil) dX1_part_15
def LX1_insert_31 (n : Nat)  : Nat → Int32 → Int32 → Int32 → Int32 → Int32 → Int32 → Int32 → (Nat → Int32) → (Nat → Int32) → (Nat → Int32) → (Nat → Int32) → Option (Int32 × (Nat → Int32) × (Nat → Int32) × (Nat → Int32) × (Nat → Int32))
  | 0, _, _, _, _, _, _, _, _, _, _, _ => none
  | k + 1, a1, a2, a3, a4, a5, a6, msz0, mCA, mCB, mCC, mCE =>
  (if a6 ≤ a1 then (gd_in a1 n (some (msz0 + 1, upd mCA a1.toNatClampNeg a2, upd mCB a1.toNatClampNeg a3, upd mCC a1.toNatClampNeg a4, upd mCE a1.toNatClampNeg a5))) else (gd_in (a6 - 1) n (gd_in a6 n (LX1_insert_31 n k a1 a2 a3 a4 a5 (a6 + (-1)) msz0 (upd mCA a6.toNatClampNeg (mCA (a6 - 1).toNatClampNeg)) (upd mCB a6.toNatClampNeg (mCB (a6 - 1).toNatClampNeg)) (upd mCC a6.toNatClampNeg (mCC (a6 - 1).toNatClampNeg)) (upd mCE a6.toNatClampNeg (mCE (a6 - 1).toNatClampNeg))))))
def fX1_insert (n : Nat) (sz0 : Int32) (CA : Nat → Int32) (CB : Nat → Int32) (CC : Nat → Int32) (CE : Nat → Int32) (p1 : Int32) (p2 : Int32) (p3 : Int32) (p4 : Int32) (p5 : Int32) : Option (Int32 × (Nat → Int32) × (Nat → Int32) × (Nat → Int32) × (Nat → Int32)) :=
  (if p1 < 0 then (some (sz0, CA, CB, CC, CE)) else (if sz0 < p1 then (some (sz0, CA, CB, CC, CE)) else (if sz0 < nI n then (LX1_insert_31 n FU p1 p2 p3 p4 p5 sz0 sz0 CA CB CC CE) else (some (sz0, CA, CB, CC, CE)))))
abbrev rX1_insert : Room := { frames := 0, cells := 0, slots := 0, locals := 0 }
set_option maxHeartbeats 40000000 in
set_option maxRecDepth 100000 in
theorem kX1_insert (l : Launch) (G : GT) (h0 aa ab ac ae : Nat) (sz : Nat) (n : Nat) (sz0 : Int32) (CA : Nat → Int32) (CB : Nat → Int32) (CC : Nat → Int32) (CE : Nat → Int32) (p1 : Int32) (p2 : Int32) (p3 : Int32) (p4 : Int32) (p5 : Int32) (res : Int32 × (Nat → Int32) × (Nat → Int32) × (Nat → Int32) × (Nat → Int32)) (hF : fX1_insert n sz0 CA CB CC CE p1 p2 p3 p4 p5 = some res) : Met l yX1_insert wsX1_insert rX1_insert (va_Pc [.ref h0, .int p1, .int p2, .int p3, .int p4, .int p5] (pW G sz (wCnd G h0 aa ab ac ae n sz0 CA CB CC CE))) (va_Qv (fun (u : Int32 × (Nat → Int32) × (Nat → Int32) × (Nat → Int32) × (Nat → Int32)) => u = res) (fun u t => qW G (va_A (wCnd G h0 aa ab ac ae n sz0 CA CB CC CE) sz) (wCnd G h0 aa ab ac ae n u.1 u.2.1 u.2.2.1 u.2.2.2.1 u.2.2.2.2) t) (va_A (wCnd G h0 aa ab ac ae n sz0 CA CB CC CE) sz)) 0 0 (va_A (wCnd G h0 aa ab ac ae n sz0 CA CB CC CE) sz) := by
  refine Met.ofW (cc := cX1_insert) (maxL := 7) (ret := none) (by decide) rfl ?_
  intro p e s m args below meth c s₁ B hml hv
  obtain ⟨rfl, hsz, hP, hK, hD0⟩ := hv
  have hx := B.exec
  have hb := B.bytes
  have hr := B.returns
  have hts := atoms_spec (ws := wsX1_insert) B.pre
  have hown : s.vm.findClass RX1 = some m.cls := findClass_of_methodNamed B.named
  have hlocks := B.notSynchronized
  subst hsz
  have hD := hD0.self (sz := s.heap.size)
  generalize hAe : va_A (wCnd G h0 aa ab ac ae n sz0 CA CB CC CE) s.heap.size = A at hD ⊢
  have hA : ∀ q : Nat, s.heap.size ≤ q → A q := fun q h => by rw [← hAe]; exact Or.inr h
  have hS : va_S A s.heap s.heap [] := va_S.rf
  have hin1 : ∀ w ∈ u_ws RX1 TX1 5, w ∈ wsX1_insert := by decide +kernel
  have hfl30 := hts (.fieldLink RX1 30 "SwellBodies$Conditions" "size" "I") (by decide +kernel)
  have hfl15 := hts (.fieldLink RX1 15 "SwellBodies$Conditions" "a" "[I") (by decide +kernel)
  have hfl21 := hts (.fieldLink RX1 21 "SwellBodies$Conditions" "b" "[I") (by decide +kernel)
  have hfl24 := hts (.fieldLink RX1 24 "SwellBodies$Conditions" "c" "[I") (by decide +kernel)
  have hfl27 := hts (.fieldLink RX1 27 "SwellBodies$Conditions" "e" "[I") (by decide +kernel)
  have hl := lv_entry ([.ref h0, .int p1, .int p2, .int p3, .int p4, .int p5]) (n := 7) (Nat.le_of_ble_eq_true rfl)
  rw [lg_entry_eq]
  generalize (lg_sl ([.ref h0, .int p1, .int p2, .int p3, .int p4, .int p5]) ++ List.replicate (7 - (lg_sl ([.ref h0, .int p1, .int p2, .int p3, .int p4, .int p5])).length) Slot.unset).toArray = ls at hl ⊢
  have hl : lv_has ls 7 [(0, .ref h0), (1, .int p1), (2, .int p2), (3, .int p3), (4, .int p4), (5, .int p5)] := hl
  have hL31 : ∀ (k : Nat), ∀ (a1 : Int32) (a2 : Int32) (a3 : Int32) (a4 : Int32) (a5 : Int32) (a6 : Int32) (msz0 : Int32) (mCA : Nat → Int32) (mCB : Nat → Int32) (mCC : Nat → Int32) (mCE : Nat → Int32) (H : Heap) (locs : List Loc) (ls : Array Slot), LX1_insert_31 n k a1 a2 a3 a4 a5 a6 msz0 mCA mCB mCC mCE = some res → va_P (gD G) vwCl (wCnd G h0 aa ab ac ae n msz0 mCA mCB mCC mCE) H → va_D A (wCnd G h0 aa ab ac ae n msz0 mCA mCB mCC mCE) → va_S A s.heap H locs → lv_has ls 7 [(0, .ref h0), (1, .int a1), (2, .int a2), (3, .int a3), (4, .int a4), (5, .int a5), (6, .int a6)] → W p l e (headSpec wsX1_insert rX1_insert).room s m ([.ref h0, .int p1, .int p2, .int p3, .int p4, .int p5] : List Value).toArray below meth c H locs 0 0 (MQ below (va_Qv (fun (u : Int32 × (Nat → Int32) × (Nat → Int32) × (Nat → Int32) × (Nat → Int32)) => u = res) (fun u t => qW G A (wCnd G h0 aa ab ac ae n u.1 u.2.1 u.2.2.1 u.2.2.2.1 u.2.2.2.2) t) A) ([.ref h0, .int p1, .int p2, .int p3, .int p4, .int p5] : List Value).toArray s 0 0 A) (F0 m 31 ls []) := by
    intro k
    induction k with
    | zero =>
      intro a1 a2 a3 a4 a5 a6 msz0 mCA mCB mCC mCE H locs ls hF hP hD hS hl
      rw [LX1_insert_31] at hF
      cases hF
    | succ k ih =>
      intro a1 a2 a3 a4 a5 a6 msz0 mCA mCB mCC mCE H locs ls hF hP hD hS hl
      rw [LX1_insert_31] at hF
      refine lv_iload hx hb dX1_insert_31 (lv_at hl 6 rfl) ?_
      refine lv_iload_n hx hb dX1_insert_33 rfl (lv_at hl 1 rfl) ?_
      refine lv_icmp_le (tgt := 107) hx hb dX1_insert_34 (by decide) (fun c_4 => ?_) (fun c_4 => ?_)
      · replace hF := it_p c_4 hF
        refine lv_aload_n hx hb dX1_insert_107 rfl (lv_at hl 0 rfl) ?_
        refine va_get (ci := 1) (v := .ref aa) (C := RX1) (T := TX1) (N := 5) hx hb hts hin1 hown hK hP 0 rfl rfl 0 (by decide) hfl15 (fun _ h9 => h9) rfl dX1_insert_108 ?_
        refine lv_iload_n hx hb dX1_insert_111 rfl (lv_at hl 1 rfl) ?_
        refine lv_iload_n hx hb dX1_insert_112 rfl (lv_at hl 2 rfl) ?_
        obtain ⟨hi_5, hF⟩ := gd_in_s hF
        refine va_iast hx hb hK hP hD hS 1 0 rfl rfl hi_5 dX1_insert_113 (fun H locs hP hD hS => ?_)
        have hP : va_P (gD G) vwCl (wCnd G h0 aa ab ac ae n msz0 (upd mCA a1.toNatClampNeg a2) mCB mCC mCE) H := hP
        have hD : va_D A (wCnd G h0 aa ab ac ae n msz0 (upd mCA a1.toNatClampNeg a2) mCB mCC mCE) := hD
        refine lv_aload_n hx hb dX1_insert_114 rfl (lv_at hl 0 rfl) ?_
        refine va_get (ci := 1) (v := .ref ab) (C := RX1) (T := TX1) (N := 5) hx hb hts hin1 hown hK hP 0 rfl rfl 1 (by decide) hfl21 (fun _ h9 => h9) rfl dX1_insert_115 ?_
        refine lv_iload_n hx hb dX1_insert_118 rfl (lv_at hl 1 rfl) ?_
        refine lv_iload_n hx hb dX1_insert_119 rfl (lv_at hl 3 rfl) ?_
        refine va_iast hx hb hK hP hD hS 2 0 rfl rfl hi_5 dX1_insert_120 (fun H locs hP hD hS => ?_)
        have hP : va_P (gD G) vwCl (wCnd G h0 aa ab ac ae n msz0 (upd mCA a1.toNatClampNeg a2) (upd mCB a1.toNatClampNeg a3) mCC mCE) H := hP
        have hD : va_D A (wCnd G h0 aa ab ac ae n msz0 (upd mCA a1.toNatClampNeg a2) (upd mCB a1.toNatClampNeg a3) mCC mCE) := hD
        refine lv_aload_n hx hb dX1_insert_121 rfl (lv_at hl 0 rfl) ?_
        refine va_get (ci := 1) (v := .ref ac) (C := RX1) (T := TX1) (N := 5) hx hb hts hin1 hown hK hP 0 rfl rfl 2 (by decide) hfl24 (fun _ h9 => h9) rfl dX1_insert_122 ?_
        refine lv_iload_n hx hb dX1_insert_125 rfl (lv_at hl 1 rfl) ?_
        refine lv_iload hx hb dX1_insert_126 (lv_at hl 4 rfl) ?_
        refine va_iast hx hb hK hP hD hS 3 0 rfl rfl hi_5 dX1_insert_128 (fun H locs hP hD hS => ?_)
        have hP : va_P (gD G) vwCl (wCnd G h0 aa ab ac ae n msz0 (upd mCA a1.toNatClampNeg a2) (upd mCB a1.toNatClampNeg a3) (upd mCC a1.toNatClampNeg a4) mCE) H := hP
        have hD : va_D A (wCnd G h0 aa ab ac ae n msz0 (upd mCA a1.toNatClampNeg a2) (upd mCB a1.toNatClampNeg a3) (upd mCC a1.toNatClampNeg a4) mCE) := hD
        refine lv_aload_n hx hb dX1_insert_129 rfl (lv_at hl 0 rfl) ?_
        refine va_get (ci := 1) (v := .ref ae) (C := RX1) (T := TX1) (N := 5) hx hb hts hin1 hown hK hP 0 rfl rfl 3 (by decide) hfl27 (fun _ h9 => h9) rfl dX1_insert_130 ?_
        refine lv_iload_n hx hb dX1_insert_133 rfl (lv_at hl 1 rfl) ?_
        refine lv_iload hx hb dX1_insert_134 (lv_at hl 5 rfl) ?_
        refine va_iast hx hb hK hP hD hS 4 0 rfl rfl hi_5 dX1_insert_136 (fun H locs hP hD hS => ?_)
        have hP : va_P (gD G) vwCl (wCnd G h0 aa ab ac ae n msz0 (upd mCA a1.toNatClampNeg a2) (upd mCB a1.toNatClampNeg a3) (upd mCC a1.toNatClampNeg a4) (upd mCE a1.toNatClampNeg a5)) H := hP
        have hD : va_D A (wCnd G h0 aa ab ac ae n msz0 (upd mCA a1.toNatClampNeg a2) (upd mCB a1.toNatClampNeg a3) (upd mCC a1.toNatClampNeg a4) (upd mCE a1.toNatClampNeg a5)) := hD
        refine lv_aload_n hx hb dX1_insert_137 rfl (lv_at hl 0 rfl) ?_
        refine lv_dup hx hb dX1_insert_138 rfl ?_
        refine va_get (ci := 1) (v := .int msz0) (C := RX1) (T := TX1) (N := 5) hx hb hts hin1 hown hK hP 0 rfl rfl 4 (by decide) hfl30 (fun _ h9 => h9) rfl dX1_insert_139 ?_
        refine lv_iconst (v := 1) hx hb dX1_insert_142 (by decide) ?_
        refine lv_iadd hx hb dX1_insert_143 ?_
        refine va_put (ci := 1) (v := .int (msz0 + 1)) (ty := .int) (C := RX1) (T := TX1) (N := 5) hx hb hts hin1 tyX1 tyX1_ok nmX1 hown hK hP hD hS 0 rfl rfl 4 (by decide) hfl30 (fun _ h9 => h9) rfl (by decide +kernel) rfl rfl (Nat.le_of_ble_eq_true rfl) dX1_insert_144 (fun H locs hP hD hS => ?_)
        have hP : va_P (gD G) vwCl (wCnd G h0 aa ab ac ae n (msz0 + 1) (upd mCA a1.toNatClampNeg a2) (upd mCB a1.toNatClampNeg a3) (upd mCC a1.toNatClampNeg a4) (upd mCE a1.toNatClampNeg a5)) H := hP
        have hD : va_D A (wCnd G h0 aa ab ac ae n (msz0 + 1) (upd mCA a1.toNatClampNeg a2) (upd mCB a1.toNatClampNeg a3) (upd mCC a1.toNatClampNeg a4) (upd mCE a1.toNatClampNeg a5)) := hD
        exact W.vret hx hb hr (fun t ht hW => ⟨⟨(msz0 + 1, upd mCA a1.toNatClampNeg a2, upd mCB a1.toNatClampNeg a3, upd mCC a1.toNatClampNeg a4, upd mCE a1.toNatClampNeg a5), rfl, so_e hF, qW_mk ht hP hK hW hD⟩, hS.F ht⟩) hS.2.2 dX1_insert_147
      · replace hF := it_n c_4 hF
        refine lv_aload_n hx hb dX1_insert_37 rfl (lv_at hl 0 rfl) ?_
        refine va_get (ci := 1) (v := .ref aa) (C := RX1) (T := TX1) (N := 5) hx hb hts hin1 hown hK hP 0 rfl rfl 0 (by decide) hfl15 (fun _ h9 => h9) rfl dX1_insert_38 ?_
        refine lv_iload hx hb dX1_insert_41 (lv_at hl 6 rfl) ?_
        refine lv_aload_n hx hb dX1_insert_43 rfl (lv_at hl 0 rfl) ?_
        refine va_get (ci := 1) (v := .ref aa) (C := RX1) (T := TX1) (N := 5) hx hb hts hin1 hown hK hP 0 rfl rfl 0 (by decide) hfl15 (fun _ h9 => h9) rfl dX1_insert_44 ?_
        refine lv_iload hx hb dX1_insert_47 (lv_at hl 6 rfl) ?_
        refine lv_iconst (v := 1) hx hb dX1_insert_49 (by decide) ?_
        refine lv_isub hx hb dX1_insert_50 ?_
        obtain ⟨hi_6, hF⟩ := gd_in_s hF
        refine va_iald hx hb hK hP 1 0 rfl rfl hi_6 dX1_insert_51 ?_
        obtain ⟨hi_7, hF⟩ := gd_in_s hF
        refine va_iast hx hb hK hP hD hS 1 0 rfl rfl hi_7 dX1_insert_52 (fun H locs hP hD hS => ?_)
        have hP : va_P (gD G) vwCl (wCnd G h0 aa ab ac ae n msz0 (upd mCA a6.toNatClampNeg (mCA (a6 - 1).toNatClampNeg)) mCB mCC mCE) H := hP
        have hD : va_D A (wCnd G h0 aa ab ac ae n msz0 (upd mCA a6.toNatClampNeg (mCA (a6 - 1).toNatClampNeg)) mCB mCC mCE) := hD
        refine lv_aload_n hx hb dX1_insert_53 rfl (lv_at hl 0 rfl) ?_
        refine va_get (ci := 1) (v := .ref ab) (C := RX1) (T := TX1) (N := 5) hx hb hts hin1 hown hK hP 0 rfl rfl 1 (by decide) hfl21 (fun _ h9 => h9) rfl dX1_insert_54 ?_
        refine lv_iload hx hb dX1_insert_57 (lv_at hl 6 rfl) ?_
        refine lv_aload_n hx hb dX1_insert_59 rfl (lv_at hl 0 rfl) ?_
        refine va_get (ci := 1) (v := .ref ab) (C := RX1) (T := TX1) (N := 5) hx hb hts hin1 hown hK hP 0 rfl rfl 1 (by decide) hfl21 (fun _ h9 => h9) rfl dX1_insert_60 ?_
        refine lv_iload hx hb dX1_insert_63 (lv_at hl 6 rfl) ?_
        refine lv_iconst (v := 1) hx hb dX1_insert_65 (by decide) ?_
        refine lv_isub hx hb dX1_insert_66 ?_
        refine va_iald hx hb hK hP 2 0 rfl rfl hi_6 dX1_insert_67 ?_
        refine va_iast hx hb hK hP hD hS 2 0 rfl rfl hi_7 dX1_insert_68 (fun H locs hP hD hS => ?_)
        have hP : va_P (gD G) vwCl (wCnd G h0 aa ab ac ae n msz0 (upd mCA a6.toNatClampNeg (mCA (a6 - 1).toNatClampNeg)) (upd mCB a6.toNatClampNeg (mCB (a6 - 1).toNatClampNeg)) mCC mCE) H := hP
        have hD : va_D A (wCnd G h0 aa ab ac ae n msz0 (upd mCA a6.toNatClampNeg (mCA (a6 - 1).toNatClampNeg)) (upd mCB a6.toNatClampNeg (mCB (a6 - 1).toNatClampNeg)) mCC mCE) := hD
        refine lv_aload_n hx hb dX1_insert_69 rfl (lv_at hl 0 rfl) ?_
        refine va_get (ci := 1) (v := .ref ac) (C := RX1) (T := TX1) (N := 5) hx hb hts hin1 hown hK hP 0 rfl rfl 2 (by decide) hfl24 (fun _ h9 => h9) rfl dX1_insert_70 ?_
        refine lv_iload hx hb dX1_insert_73 (lv_at hl 6 rfl) ?_
        refine lv_aload_n hx hb dX1_insert_75 rfl (lv_at hl 0 rfl) ?_
        refine va_get (ci := 1) (v := .ref ac) (C := RX1) (T := TX1) (N := 5) hx hb hts hin1 hown hK hP 0 rfl rfl 2 (by decide) hfl24 (fun _ h9 => h9) rfl dX1_insert_76 ?_
        refine lv_iload hx hb dX1_insert_79 (lv_at hl 6 rfl) ?_
        refine lv_iconst (v := 1) hx hb dX1_insert_81 (by decide) ?_
        refine lv_isub hx hb dX1_insert_82 ?_
        refine va_iald hx hb hK hP 3 0 rfl rfl hi_6 dX1_insert_83 ?_
        refine va_iast hx hb hK hP hD hS 3 0 rfl rfl hi_7 dX1_insert_84 (fun H locs hP hD hS => ?_)
        have hP : va_P (gD G) vwCl (wCnd G h0 aa ab ac ae n msz0 (upd mCA a6.toNatClampNeg (mCA (a6 - 1).toNatClampNeg)) (upd mCB a6.toNatClampNeg (mCB (a6 - 1).toNatClampNeg)) (upd mCC a6.toNatClampNeg (mCC (a6 - 1).toNatClampNeg)) mCE) H := hP
        have hD : va_D A (wCnd G h0 aa ab ac ae n msz0 (upd mCA a6.toNatClampNeg (mCA (a6 - 1).toNatClampNeg)) (upd mCB a6.toNatClampNeg (mCB (a6 - 1).toNatClampNeg)) (upd mCC a6.toNatClampNeg (mCC (a6 - 1).toNatClampNeg)) mCE) := hD
        refine lv_aload_n hx hb dX1_insert_85 rfl (lv_at hl 0 rfl) ?_
        refine va_get (ci := 1) (v := .ref ae) (C := RX1) (T := TX1) (N := 5) hx hb hts hin1 hown hK hP 0 rfl rfl 3 (by decide) hfl27 (fun _ h9 => h9) rfl dX1_insert_86 ?_
        refine lv_iload hx hb dX1_insert_89 (lv_at hl 6 rfl) ?_
        refine lv_aload_n hx hb dX1_insert_91 rfl (lv_at hl 0 rfl) ?_
        refine va_get (ci := 1) (v := .ref ae) (C := RX1) (T := TX1) (N := 5) hx hb hts hin1 hown hK hP 0 rfl rfl 3 (by decide) hfl27 (fun _ h9 => h9) rfl dX1_insert_92 ?_
        refine lv_iload hx hb dX1_insert_95 (lv_at hl 6 rfl) ?_
        refine lv_iconst (v := 1) hx hb dX1_insert_97 (by decide) ?_
        refine lv_isub hx hb dX1_insert_98 ?_
        refine va_iald hx hb hK hP 4 0 rfl rfl hi_6 dX1_insert_99 ?_
        refine va_iast hx hb hK hP hD hS 4 0 rfl rfl hi_7 dX1_insert_100 (fun H locs hP hD hS => ?_)
        have hP : va_P (gD G) vwCl (wCnd G h0 aa ab ac ae n msz0 (upd mCA a6.toNatClampNeg (mCA (a6 - 1).toNatClampNeg)) (upd mCB a6.toNatClampNeg (mCB (a6 - 1).toNatClampNeg)) (upd mCC a6.toNatClampNeg (mCC (a6 - 1).toNatClampNeg)) (upd mCE a6.toNatClampNeg (mCE (a6 - 1).toNatClampNeg))) H := hP
        have hD : va_D A (wCnd G h0 aa ab ac ae n msz0 (upd mCA a6.toNatClampNeg (mCA (a6 - 1).toNatClampNeg)) (upd mCB a6.toNatClampNeg (mCB (a6 - 1).toNatClampNeg)) (upd mCC a6.toNatClampNeg (mCC (a6 - 1).toNatClampNeg)) (upd mCE a6.toNatClampNeg (mCE (a6 - 1).toNatClampNeg))) := hD
        refine lv_iinc (v := a6 + (-1)) (lv' := [(6, .int (a6 + (-1))), (0, .ref h0), (1, .int a1), (2, .int a2), (3, .int a3), (4, .int a4), (5, .int a5)]) hx hb dX1_insert_101 hl (k := 6) rfl rfl (by decide) rfl (fun ls hl => ?_)
        refine lv_goto (tgt := 31) hx hb dX1_insert_104 (by decide) ?_
        exact ih a1 a2 a3 a4 a5 (a6 + (-1)) msz0 (upd mCA a6.toNatClampNeg (mCA (a6 - 1).toNatClampNeg)) (upd mCB a6.toNatClampNeg (mCB (a6 - 1).toNatClampNeg)) (upd mCC a6.toNatClampNeg (mCC (a6 - 1).toNatClampNeg)) (upd mCE a6.toNatClampNeg (mCE (a6 - 1).toNatClampNeg)) _ _ _ hF hP hD hS (lv_sub hl [1, 2, 3, 4, 5, 6, 0] rfl)
  unfold fX1_insert at hF
  refine lv_iload_n hx hb dX1_insert_0 rfl (lv_at hl 1 rfl) ?_
  refine lv_if_lt (tgt := 24) hx hb dX1_insert_1 (by decide) (fun c_1 => ?_) (fun c_1 => ?_)
  · replace hF := it_p c_1 hF
    exact W.vret hx hb hr (fun t ht hW => ⟨⟨(sz0, CA, CB, CC, CE), rfl, so_e hF, qW_mk ht hP hK hW hD⟩, hS.F ht⟩) hS.2.2 dX1_insert_24
  · replace hF := it_n c_1 hF
    refine lv_iload_n hx hb dX1_insert_4 rfl (lv_at hl 1 rfl) ?_
    refine lv_aload_n hx hb dX1_insert_5 rfl (lv_at hl 0 rfl) ?_
    refine va_get (ci := 1) (v := .int sz0) (C := RX1) (T := TX1) (N := 5) hx hb hts hin1 hown hK hP 0 rfl rfl 4 (by decide) hfl30 (fun _ h9 => h9) rfl dX1_insert_6 ?_
    refine lv_icmp_gt (tgt := 24) hx hb dX1_insert_9 (by decide) (fun c_2 => ?_) (fun c_2 => ?_)
    · replace hF := it_p c_2 hF
      exact W.vret hx hb hr (fun t ht hW => ⟨⟨(sz0, CA, CB, CC, CE), rfl, so_e hF, qW_mk ht hP hK hW hD⟩, hS.F ht⟩) hS.2.2 dX1_insert_24
    · replace hF := it_n c_2 hF
      refine lv_aload_n hx hb dX1_insert_12 rfl (lv_at hl 0 rfl) ?_
      refine va_get (ci := 1) (v := .int sz0) (C := RX1) (T := TX1) (N := 5) hx hb hts hin1 hown hK hP 0 rfl rfl 4 (by decide) hfl30 (fun _ h9 => h9) rfl dX1_insert_13 ?_
      refine lv_aload_n hx hb dX1_insert_16 rfl (lv_at hl 0 rfl) ?_
      refine va_get (ci := 1) (v := .ref aa) (C := RX1) (T := TX1) (N := 5) hx hb hts hin1 hown hK hP 0 rfl rfl 0 (by decide) hfl15 (fun _ h9 => h9) rfl dX1_insert_17 ?_
      refine va_alen (v := nI n) hx hb hK hP 1 0 rfl rfl rfl dX1_insert_20 ?_
      refine lv_icmp_lt (tgt := 25) hx hb dX1_insert_21 (by decide) (fun c_3 => ?_) (fun c_3 => ?_)
      · replace hF := it_p c_3 hF
        refine lv_aload_n hx hb dX1_insert_25 rfl (lv_at hl 0 rfl) ?_
        refine va_get (ci := 1) (v := .int sz0) (C := RX1) (T := TX1) (N := 5) hx hb hts hin1 hown hK hP 0 rfl rfl 4 (by decide) hfl30 (fun _ h9 => h9) rfl dX1_insert_26 ?_
        refine lv_istore (lv' := [(6, .int sz0), (0, .ref h0), (1, .int p1), (2, .int p2), (3, .int p3), (4, .int p4), (5, .int p5)]) hx hb dX1_insert_29 hl (by decide) rfl (fun ls hl => ?_)
        exact hL31 FU p1 p2 p3 p4 p5 sz0 sz0 CA CB CC CE _ _ _ hF hP hD hS (lv_sub hl [1, 2, 3, 4, 5, 6, 0] rfl)
      · replace hF := it_n c_3 hF
        exact W.vret hx hb hr (fun t ht hW => ⟨⟨(sz0, CA, CB, CC, CE), rfl, so_e hF, qW_mk ht hP hK hW hD⟩, hS.F ht⟩) hS.2.2 dX1_insert_24
def fX1_put (n : Nat) (sz0 : Int32) (CA : Nat → Int32) (CB : Nat → Int32) (CC : Nat → Int32) (CE : Nat → Int32) (p1 : Int32) (p2 : Int32) (p3 : Int32) (p4 : Int32) : Option (Int32 × (Nat → Int32) × (Nat → Int32) × (Nat → Int32) × (Nat → Int32)) :=
  (bd (fX1_insert n sz0 CA CB CC CE sz0 p1 p2 p3 p4) (fun v_1 => (some (v_1.1, v_1.2.1, v_1.2.2.1, v_1.2.2.2.1, v_1.2.2.2.2))))
abbrev rX1_put : Room := { frames := 1, cells := 0, slots := 0, locals := 26 }
set_option maxHeartbeats 40000000 in
set_option maxRecDepth 100000 in
theorem kX1_put (l : Launch) (G : GT) (h0 aa ab ac ae : Nat) (sz : Nat) (n : Nat) (sz0 : Int32) (CA : Nat → Int32) (CB : Nat → Int32) (CC : Nat → Int32) (CE : Nat → Int32) (p1 : Int32) (p2 : Int32) (p3 : Int32) (p4 : Int32) (res : Int32 × (Nat → Int32) × (Nat → Int32) × (Nat → Int32) × (Nat → Int32)) (hF : fX1_put n sz0 CA CB CC CE p1 p2 p3 p4 = some res) : Met l yX1_put wsX1_put rX1_put (va_Pc [.ref h0, .int p1, .int p2, .int p3, .int p4] (pW G sz (wCnd G h0 aa ab ac ae n sz0 CA CB CC CE))) (va_Qv (fun (u : Int32 × (Nat → Int32) × (Nat → Int32) × (Nat → Int32) × (Nat → Int32)) => u = res) (fun u t => qW G (va_A (wCnd G h0 aa ab ac ae n sz0 CA CB CC CE) sz) (wCnd G h0 aa ab ac ae n u.1 u.2.1 u.2.2.1 u.2.2.2.1 u.2.2.2.2) t) (va_A (wCnd G h0 aa ab ac ae n sz0 CA CB CC CE) sz)) 0 0 (va_A (wCnd G h0 aa ab ac ae n sz0 CA CB CC CE) sz) := by
  refine Met.ofW (cc := cX1_put) (maxL := 5) (ret := none) (by decide) rfl ?_
  intro p e s m args below meth c s₁ B hml hv
  obtain ⟨rfl, hsz, hP, hK, hD0⟩ := hv
  have hx := B.exec
  have hb := B.bytes
  have hr := B.returns
  have hts := atoms_spec (ws := wsX1_put) B.pre
  have hown : s.vm.findClass RX1 = some m.cls := findClass_of_methodNamed B.named
  have hlocks := B.notSynchronized
  subst hsz
  have hD := hD0.self (sz := s.heap.size)
  generalize hAe : va_A (wCnd G h0 aa ab ac ae n sz0 CA CB CC CE) s.heap.size = A at hD ⊢
  have hA : ∀ q : Nat, s.heap.size ≤ q → A q := fun q h => by rw [← hAe]; exact Or.inr h
  have hS : va_S A s.heap s.heap [] := va_S.rf
  have hin1 : ∀ w ∈ u_ws RX1 TX1 5, w ∈ wsX1_put := by decide +kernel
  have hfl30 := hts (.fieldLink RX1 30 "SwellBodies$Conditions" "size" "I") (by decide +kernel)
  have hl := lv_entry ([.ref h0, .int p1, .int p2, .int p3, .int p4]) (n := 5) (Nat.le_of_ble_eq_true rfl)
  rw [lg_entry_eq]
  generalize (lg_sl ([.ref h0, .int p1, .int p2, .int p3, .int p4]) ++ List.replicate (5 - (lg_sl ([.ref h0, .int p1, .int p2, .int p3, .int p4])).length) Slot.unset).toArray = ls at hl ⊢
  have hl : lv_has ls 5 [(0, .ref h0), (1, .int p1), (2, .int p2), (3, .int p3), (4, .int p4)] := hl
  unfold fX1_put at hF
  refine lv_aload_n hx hb dX1_put_0 rfl (lv_at hl 0 rfl) ?_
  refine lv_aload_n hx hb dX1_put_1 rfl (lv_at hl 0 rfl) ?_
  refine va_get (ci := 1) (v := .int sz0) (C := RX1) (T := TX1) (N := 5) hx hb hts hin1 hown hK hP 0 rfl rfl 4 (by decide) hfl30 (fun _ h9 => h9) rfl dX1_put_2 ?_
  refine lv_iload_n hx hb dX1_put_5 rfl (lv_at hl 1 rfl) ?_
  refine lv_iload_n hx hb dX1_put_6 rfl (lv_at hl 2 rfl) ?_
  refine lv_iload_n hx hb dX1_put_7 rfl (lv_at hl 3 rfl) ?_
  refine lv_iload hx hb dX1_put_8 (lv_at hl 4 rfl) ?_
  obtain ⟨v_1, hv_1, hF⟩ := bd_s hF
  refine rw_ve (wf := (fun (u : Int32 × (Nat → Int32) × (Nat → Int32) × (Nat → Int32) × (Nat → Int32)) => (wCnd G h0 aa ab ac ae n u.1 u.2.1 u.2.2.1 u.2.2.2.1 u.2.2.2.2))) (wr := []) (va_runV (As := [.int sz0, .int p1, .int p2, .int p3, .int p4]) (rest := []) ⟨hx, hb, hml, hown, hts⟩ (kX1_insert l G h0 aa ab ac ae s.heap.size n sz0 CA CB CC CE sz0 p1 p2 p3 p4 v_1 hv_1) (cwV 5 hts gX1_put_X1_insert rfl rfl rfl (by decide +kernel) ⟨Nat.le_of_ble_eq_true rfl, Nat.le_of_ble_eq_true rfl⟩) (pvW (q0 := 0) 1 hK (hP.sub (ws' := (wCnd G h0 aa ab ac ae n sz0 CA CB CC CE)) [0, 1, 2, 3, 4] rfl) (hD.sub (ws' := (wCnd G h0 aa ab ac ae n sz0 CA CB CC CE)) [0, 1, 2, 3, 4] (by decide) rfl) rfl rfl) rfl rfl hl.1 rfl (lv_room (Nat.le_of_ble_eq_true rfl)) dX1_put_10 ⟨Nat.le_of_ble_eq_true rfl, Nat.le_of_ble_eq_true rfl⟩) hP hD hS hA [0, 1, 2, 3, 4] [] rfl rfl (by decide) (by decide) (fun H locs  hP hD hS => ?_)
  have hP : va_P (gD G) vwCl (wCnd G h0 aa ab ac ae n v_1.1 v_1.2.1 v_1.2.2.1 v_1.2.2.2.1 v_1.2.2.2.2) H := hP.sub [0, 1, 2, 3, 4] rfl
  have hD : va_D A (wCnd G h0 aa ab ac ae n v_1.1 v_1.2.1 v_1.2.2.1 v_1.2.2.2.1 v_1.2.2.2.2) := hD.sub [0, 1, 2, 3, 4] (by decide) rfl
  exact W.vret hx hb hr (fun t ht hW => ⟨⟨(v_1.1, v_1.2.1, v_1.2.2.1, v_1.2.2.2.1, v_1.2.2.2.2), rfl, so_e hF, qW_mk ht hP hK hW hD⟩, hS.F ht⟩) hS.2.2 dX1_put_13
def fX1_compare (n : Nat) (CA : Nat → Int32) (CB : Nat → Int32) (CC : Nat → Int32) (u1 : Int32) (u2 : Int32) (u3 : Int32) (p1 : Int32) : Option (Int32) :=
  (gd_in p1 n (if CA p1.toNatClampNeg = u1 then (if CB p1.toNatClampNeg = u2 then (some ((CC p1.toNatClampNeg) - u3)) else (some ((CB p1.toNatClampNeg) - u2))) else (some ((CA p1.toNatClampNeg) - u1))))
abbrev rX1_compare : Room := { frames := 0, cells := 0, slots := 0, locals := 0 }
set_option maxHeartbeats 40000000 in
set_option maxRecDepth 100000 in
theorem kX1_compare (l : Launch) (G : GT) (h0 aa ab ac ae g0 : Nat) (n : Nat) (sz0 : Int32) (CA : Nat → Int32) (CB : Nat → Int32) (CC : Nat → Int32) (CE : Nat → Int32) (u1 : Int32) (u2 : Int32) (u3 : Int32) (p1 : Int32) (res : Int32) (hF : fX1_compare n CA CB CC u1 u2 u3 p1 = some res) : Met l yX1_compare wsX1_compare rX1_compare (va_Pc [.ref h0, .int p1, .ref g0] (pR G (wCndSt G h0 aa ab ac ae g0 n sz0 CA CB CC CE u1 u2 u3))) (vp_Si (fun r => r = res)) 0 0 (fun _ => False) := by
  refine Met.ofW (cc := cX1_compare) (maxL := 3) (ret := (some .int)) (by decide) rfl ?_
  intro p e s m args below meth c s₁ B hml hv
  obtain ⟨rfl, hP, hK⟩ := hv
  have hx := B.exec
  have hb := B.bytes
  have hr := B.returns
  have hts := atoms_spec (ws := wsX1_compare) B.pre
  have hown : s.vm.findClass RX1 = some m.cls := findClass_of_methodNamed B.named
  have hlocks := B.notSynchronized
  have hin1 : ∀ w ∈ u_ws RX1 TX1 5, w ∈ wsX1_compare := by decide +kernel
  have hfl15 := hts (.fieldLink RX1 15 "SwellBodies$Conditions" "a" "[I") (by decide +kernel)
  have hin6 : ∀ w ∈ u_ws RX6 TX6 3, w ∈ wsX1_compare := by decide +kernel
  have hfl51 := hts (.fieldLink RX1 51 "SwellBodies$Step" "x" "I") (by decide +kernel)
  have hfl21 := hts (.fieldLink RX1 21 "SwellBodies$Conditions" "b" "[I") (by decide +kernel)
  have hfl56 := hts (.fieldLink RX1 56 "SwellBodies$Step" "y" "I") (by decide +kernel)
  have hfl24 := hts (.fieldLink RX1 24 "SwellBodies$Conditions" "c" "[I") (by decide +kernel)
  have hfl59 := hts (.fieldLink RX1 59 "SwellBodies$Step" "z" "I") (by decide +kernel)
  have hl := lv_entry ([.ref h0, .int p1, .ref g0]) (n := 3) (Nat.le_of_ble_eq_true rfl)
  rw [lg_entry_eq]
  generalize (lg_sl ([.ref h0, .int p1, .ref g0]) ++ List.replicate (3 - (lg_sl ([.ref h0, .int p1, .ref g0])).length) Slot.unset).toArray = ls at hl ⊢
  have hl : lv_has ls 3 [(0, .ref h0), (1, .int p1), (2, .ref g0)] := hl
  unfold fX1_compare at hF
  refine lv_aload_n hx hb dX1_compare_0 rfl (lv_at hl 0 rfl) ?_
  refine va_get (ci := 1) (v := .ref aa) (C := RX1) (T := TX1) (N := 5) hx hb hts hin1 hown hK hP 0 rfl rfl 0 (by decide) hfl15 (fun _ h9 => h9) rfl dX1_compare_1 ?_
  refine lv_iload_n hx hb dX1_compare_4 rfl (lv_at hl 1 rfl) ?_
  obtain ⟨hi_1, hF⟩ := gd_in_s hF
  refine va_iald hx hb hK hP 1 0 rfl rfl hi_1 dX1_compare_5 ?_
  refine lv_aload_n hx hb dX1_compare_6 rfl (lv_at hl 2 rfl) ?_
  refine va_get (ci := 6) (v := .int u1) (C := RX6) (T := TX6) (N := 3) hx hb hts hin6 hown hK hP 5 rfl rfl 0 (by decide) hfl51 (fun _ h9 => h9) rfl dX1_compare_7 ?_
  refine lv_icmp_eq (tgt := 25) hx hb dX1_compare_10 (by decide) (fun c_2 => ?_) (fun c_2 => ?_)
  · replace hF := it_p c_2 hF
    refine lv_aload_n hx hb dX1_compare_25 rfl (lv_at hl 0 rfl) ?_
    refine va_get (ci := 1) (v := .ref ab) (C := RX1) (T := TX1) (N := 5) hx hb hts hin1 hown hK hP 0 rfl rfl 1 (by decide) hfl21 (fun _ h9 => h9) rfl dX1_compare_26 ?_
    refine lv_iload_n hx hb dX1_compare_29 rfl (lv_at hl 1 rfl) ?_
    refine va_iald hx hb hK hP 2 0 rfl rfl hi_1 dX1_compare_30 ?_
    refine lv_aload_n hx hb dX1_compare_31 rfl (lv_at hl 2 rfl) ?_
    refine va_get (ci := 6) (v := .int u2) (C := RX6) (T := TX6) (N := 3) hx hb hts hin6 hown hK hP 5 rfl rfl 1 (by decide) hfl56 (fun _ h9 => h9) rfl dX1_compare_32 ?_
    refine lv_icmp_eq (tgt := 50) hx hb dX1_compare_35 (by decide) (fun c_3 => ?_) (fun c_3 => ?_)
    · replace hF := it_p c_3 hF
      refine lv_aload_n hx hb dX1_compare_50 rfl (lv_at hl 0 rfl) ?_
      refine va_get (ci := 1) (v := .ref ac) (C := RX1) (T := TX1) (N := 5) hx hb hts hin1 hown hK hP 0 rfl rfl 2 (by decide) hfl24 (fun _ h9 => h9) rfl dX1_compare_51 ?_
      refine lv_iload_n hx hb dX1_compare_54 rfl (lv_at hl 1 rfl) ?_
      refine va_iald hx hb hK hP 3 0 rfl rfl hi_1 dX1_compare_55 ?_
      refine lv_aload_n hx hb dX1_compare_56 rfl (lv_at hl 2 rfl) ?_
      refine va_get (ci := 6) (v := .int u3) (C := RX6) (T := TX6) (N := 3) hx hb hts hin6 hown hK hP 5 rfl rfl 2 (by decide) hfl59 (fun _ h9 => h9) rfl dX1_compare_57 ?_
      refine lv_isub hx hb dX1_compare_60 ?_
      exact W.iret (v := (CC p1.toNatClampNeg) - u3) hx hb hr  (fun t ht hW => ⟨(CC p1.toNatClampNeg) - u3, rfl, (so_e hF), ht⟩) (fun q h => absurd h List.not_mem_nil) dX1_compare_61
    · replace hF := it_n c_3 hF
      refine lv_aload_n hx hb dX1_compare_38 rfl (lv_at hl 0 rfl) ?_
      refine va_get (ci := 1) (v := .ref ab) (C := RX1) (T := TX1) (N := 5) hx hb hts hin1 hown hK hP 0 rfl rfl 1 (by decide) hfl21 (fun _ h9 => h9) rfl dX1_compare_39 ?_
      refine lv_iload_n hx hb dX1_compare_42 rfl (lv_at hl 1 rfl) ?_
      refine va_iald hx hb hK hP 2 0 rfl rfl hi_1 dX1_compare_43 ?_
      refine lv_aload_n hx hb dX1_compare_44 rfl (lv_at hl 2 rfl) ?_
      refine va_get (ci := 6) (v := .int u2) (C := RX6) (T := TX6) (N := 3) hx hb hts hin6 hown hK hP 5 rfl rfl 1 (by decide) hfl56 (fun _ h9 => h9) rfl dX1_compare_45 ?_
      refine lv_isub hx hb dX1_compare_48 ?_
      exact W.iret (v := (CB p1.toNatClampNeg) - u2) hx hb hr  (fun t ht hW => ⟨(CB p1.toNatClampNeg) - u2, rfl, (so_e hF), ht⟩) (fun q h => absurd h List.not_mem_nil) dX1_compare_49
  · replace hF := it_n c_2 hF
    refine lv_aload_n hx hb dX1_compare_13 rfl (lv_at hl 0 rfl) ?_
    refine va_get (ci := 1) (v := .ref aa) (C := RX1) (T := TX1) (N := 5) hx hb hts hin1 hown hK hP 0 rfl rfl 0 (by decide) hfl15 (fun _ h9 => h9) rfl dX1_compare_14 ?_
    refine lv_iload_n hx hb dX1_compare_17 rfl (lv_at hl 1 rfl) ?_
    refine va_iald hx hb hK hP 1 0 rfl rfl hi_1 dX1_compare_18 ?_
    refine lv_aload_n hx hb dX1_compare_19 rfl (lv_at hl 2 rfl) ?_
    refine va_get (ci := 6) (v := .int u1) (C := RX6) (T := TX6) (N := 3) hx hb hts hin6 hown hK hP 5 rfl rfl 0 (by decide) hfl51 (fun _ h9 => h9) rfl dX1_compare_20 ?_
    refine lv_isub hx hb dX1_compare_23 ?_
    exact W.iret (v := (CA p1.toNatClampNeg) - u1) hx hb hr  (fun t ht hW => ⟨(CA p1.toNatClampNeg) - u1, rfl, (so_e hF), ht⟩) (fun q h => absurd h List.not_mem_nil) dX1_compare_24
def JX1_putInOrder_42 (n : Nat) (u1 : Int32) (u2 : Int32) (u3 : Int32)  (a2 : Int32) (a3 : Int32) (msz0 : Int32) (mCA : Nat → Int32) (mCB : Nat → Int32) (mCC : Nat → Int32) (mCE : Nat → Int32) : Option (Int32 × (Nat → Int32) × (Nat → Int32) × (Nat → Int32) × (Nat → Int32)) :=
  (bd (fX1_insert n msz0 mCA mCB mCC mCE a3 u1 u2 u3 a2) (fun v_3 => (some (v_3.1, v_3.2.1, v_3.2.2.1, v_3.2.2.2.1, v_3.2.2.2.2))))
def JX1_putInOrder_25 (n : Nat) (u1 : Int32) (u2 : Int32) (u3 : Int32)  (a2 : Int32) (a3 : Int32) (msz0 : Int32) (mCA : Nat → Int32) (mCB : Nat → Int32) (mCC : Nat → Int32) (mCE : Nat → Int32) : Option (Int32 × (Nat → Int32) × (Nat → Int32) × (Nat → Int32) × (Nat → Int32)) :=
  (if a3 = msz0 then (JX1_putInOrder_42 n u1 u2 u3 a2 a3 msz0 mCA mCB mCC mCE) else (bd (fX1_compare n mCA mCB mCC u1 u2 u3 a3) (fun v_4 => (if v_4 = 0 then (some (msz0, mCA, mCB, mCC, mCE)) else (JX1_putInOrder_42 n u1 u2 u3 a2 a3 msz0 mCA mCB mCC mCE)))))
def LX1_putInOrder_2 (n : Nat) (u1 : Int32) (u2 : Int32) (u3 : Int32)  : Nat → Int32 → Int32 → Int32 → (Nat → Int32) → (Nat → Int32) → (Nat → Int32) → (Nat → Int32) → Option (Int32 × (Nat → Int32) × (Nat → Int32) × (Nat → Int32) × (Nat → Int32))
  | 0, _, _, _, _, _, _, _ => none
  | k + 1, a2, a3, msz0, mCA, mCB, mCC, mCE =>
  (if msz0 ≤ a3 then (JX1_putInOrder_25 n u1 u2 u3 a2 a3 msz0 mCA mCB mCC mCE) else (bd (fX1_compare n mCA mCB mCC u1 u2 u3 a3) (fun v_6 => (if 0 ≤ v_6 then (JX1_putInOrder_25 n u1 u2 u3 a2 a3 msz0 mCA mCB mCC mCE) else (LX1_putInOrder_2 n u1 u2 u3 k a2 (a3 + 1) msz0 mCA mCB mCC mCE)))))
def fX1_putInOrder (n : Nat) (sz0 : Int32) (CA : Nat → Int32) (CB : Nat → Int32) (CC : Nat → Int32) (CE : Nat → Int32) (u1 : Int32) (u2 : Int32) (u3 : Int32) (p1 : Int32) : Option (Int32 × (Nat → Int32) × (Nat → Int32) × (Nat → Int32) × (Nat → Int32)) :=
  (LX1_putInOrder_2 n u1 u2 u3 FU p1 0 sz0 CA CB CC CE)
abbrev rX1_putInOrder : Room := { frames := 1, cells := 0, slots := 0, locals := 26 }
set_option maxHeartbeats 40000000 in
set_option maxRecDepth 100000 in
theorem kX1_putInOrder (l : Launch) (G : GT) (h0 aa ab ac ae g0 : Nat) (sz : Nat) (n : Nat) (sz0 : Int32) (CA : Nat → Int32) (CB : Nat → Int32) (CC : Nat → Int32) (CE : Nat → Int32) (u1 : Int32) (u2 : Int32) (u3 : Int32) (p1 : Int32) (res : Int32 × (Nat → Int32) × (Nat → Int32) × (Nat → Int32) × (Nat → Int32)) (hF : fX1_putInOrder n sz0 CA CB CC CE u1 u2 u3 p1 = some res) : Met l yX1_putInOrder wsX1_putInOrder rX1_putInOrder (va_Pc [.ref h0, .ref g0, .int p1] (pW G sz (wCndSt G h0 aa ab ac ae g0 n sz0 CA CB CC CE u1 u2 u3))) (va_Qv (fun (u : Int32 × (Nat → Int32) × (Nat → Int32) × (Nat → Int32) × (Nat → Int32)) => u = res) (fun u t => qW G (va_A (wCndSt G h0 aa ab ac ae g0 n sz0 CA CB CC CE u1 u2 u3) sz) (wCndSt G h0 aa ab ac ae g0 n u.1 u.2.1 u.2.2.1 u.2.2.2.1 u.2.2.2.2 u1 u2 u3) t) (va_A (wCndSt G h0 aa ab ac ae g0 n sz0 CA CB CC CE u1 u2 u3) sz)) 0 0 (va_A (wCndSt G h0 aa ab ac ae g0 n sz0 CA CB CC CE u1 u2 u3) sz) := by
  refine Met.ofW (cc := cX1_putInOrder) (maxL := 4) (ret := none) (by decide) rfl ?_
  intro p e s m args below meth c s₁ B hml hv
  obtain ⟨rfl, hsz, hP, hK, hD0⟩ := hv
  have hx := B.exec
  have hb := B.bytes
  have hr := B.returns
  have hts := atoms_spec (ws := wsX1_putInOrder) B.pre
  have hown : s.vm.findClass RX1 = some m.cls := findClass_of_methodNamed B.named
  have hlocks := B.notSynchronized
  subst hsz
  have hD := hD0.self (sz := s.heap.size)
  generalize hAe : va_A (wCndSt G h0 aa ab ac ae g0 n sz0 CA CB CC CE u1 u2 u3) s.heap.size = A at hD ⊢
  have hA : ∀ q : Nat, s.heap.size ≤ q → A q := fun q h => by rw [← hAe]; exact Or.inr h
  have hS : va_S A s.heap s.heap [] := va_S.rf
  have hin1 : ∀ w ∈ u_ws RX1 TX1 5, w ∈ wsX1_putInOrder := by decide +kernel
  have hfl30 := hts (.fieldLink RX1 30 "SwellBodies$Conditions" "size" "I") (by decide +kernel)
  have hin6 : ∀ w ∈ u_ws RX6 TX6 3, w ∈ wsX1_putInOrder := by decide +kernel
  have hfl51 := hts (.fieldLink RX1 51 "SwellBodies$Step" "x" "I") (by decide +kernel)
  have hfl56 := hts (.fieldLink RX1 56 "SwellBodies$Step" "y" "I") (by decide +kernel)
  have hfl59 := hts (.fieldLink RX1 59 "SwellBodies$Step" "z" "I") (by decide +kernel)
  have hl := lv_entry ([.ref h0, .ref g0, .int p1]) (n := 4) (Nat.le_of_ble_eq_true rfl)
  rw [lg_entry_eq]
  generalize (lg_sl ([.ref h0, .ref g0, .int p1]) ++ List.replicate (4 - (lg_sl ([.ref h0, .ref g0, .int p1])).length) Slot.unset).toArray = ls at hl ⊢
  have hl : lv_has ls 4 [(0, .ref h0), (1, .ref g0), (2, .int p1)] := hl
  have hJ42 : ∀ (a2 : Int32) (a3 : Int32) (msz0 : Int32) (mCA : Nat → Int32) (mCB : Nat → Int32) (mCC : Nat → Int32) (mCE : Nat → Int32) (H : Heap) (locs : List Loc) (ls : Array Slot), JX1_putInOrder_42 n u1 u2 u3 a2 a3 msz0 mCA mCB mCC mCE = some res → va_P (gD G) vwCl (wCndSt G h0 aa ab ac ae g0 n msz0 mCA mCB mCC mCE u1 u2 u3) H → va_D A (wCndSt G h0 aa ab ac ae g0 n msz0 mCA mCB mCC mCE u1 u2 u3) → va_S A s.heap H locs → lv_has ls 4 [(0, .ref h0), (1, .ref g0), (2, .int a2), (3, .int a3)] → W p l e (headSpec wsX1_putInOrder rX1_putInOrder).room s m ([.ref h0, .ref g0, .int p1] : List Value).toArray below meth c H locs 0 0 (MQ below (va_Qv (fun (u : Int32 × (Nat → Int32) × (Nat → Int32) × (Nat → Int32) × (Nat → Int32)) => u = res) (fun u t => qW G A (wCndSt G h0 aa ab ac ae g0 n u.1 u.2.1 u.2.2.1 u.2.2.2.1 u.2.2.2.2 u1 u2 u3) t) A) ([.ref h0, .ref g0, .int p1] : List Value).toArray s 0 0 A) (F0 m 42 ls []) := by
    intro a2 a3 msz0 mCA mCB mCC mCE H locs ls hF hP hD hS hl
    unfold JX1_putInOrder_42 at hF
    refine lv_aload_n hx hb dX1_putInOrder_42 rfl (lv_at hl 0 rfl) ?_
    refine lv_iload_n hx hb dX1_putInOrder_43 rfl (lv_at hl 3 rfl) ?_
    refine lv_aload_n hx hb dX1_putInOrder_44 rfl (lv_at hl 1 rfl) ?_
    refine va_get (ci := 6) (v := .int u1) (C := RX6) (T := TX6) (N := 3) hx hb hts hin6 hown hK hP 5 rfl rfl 0 (by decide) hfl51 (fun _ h9 => h9) rfl dX1_putInOrder_45 ?_
    refine lv_aload_n hx hb dX1_putInOrder_48 rfl (lv_at hl 1 rfl) ?_
    refine va_get (ci := 6) (v := .int u2) (C := RX6) (T := TX6) (N := 3) hx hb hts hin6 hown hK hP 5 rfl rfl 1 (by decide) hfl56 (fun _ h9 => h9) rfl dX1_putInOrder_49 ?_
    refine lv_aload_n hx hb dX1_putInOrder_52 rfl (lv_at hl 1 rfl) ?_
    refine va_get (ci := 6) (v := .int u3) (C := RX6) (T := TX6) (N := 3) hx hb hts hin6 hown hK hP 5 rfl rfl 2 (by decide) hfl59 (fun _ h9 => h9) rfl dX1_putInOrder_53 ?_
    refine lv_iload_n hx hb dX1_putInOrder_56 rfl (lv_at hl 2 rfl) ?_
    obtain ⟨v_3, hv_3, hF⟩ := bd_s hF
    refine rw_ve (wf := (fun (u : Int32 × (Nat → Int32) × (Nat → Int32) × (Nat → Int32) × (Nat → Int32)) => (wCnd G h0 aa ab ac ae n u.1 u.2.1 u.2.2.1 u.2.2.2.1 u.2.2.2.2))) (wr := [(g0, .inr (6, [.int u1, .int u2, .int u3]))]) (va_runV (As := [.int a3, .int u1, .int u2, .int u3, .int a2]) (rest := []) ⟨hx, hb, hml, hown, hts⟩ (kX1_insert l G h0 aa ab ac ae H.size n msz0 mCA mCB mCC mCE a3 u1 u2 u3 a2 v_3 hv_3) (cwV 5 hts gX1_putInOrder_X1_insert rfl rfl rfl (by decide +kernel) ⟨Nat.le_of_ble_eq_true rfl, Nat.le_of_ble_eq_true rfl⟩) (pvW (q0 := 0) 1 hK (hP.sub (ws' := (wCnd G h0 aa ab ac ae n msz0 mCA mCB mCC mCE)) [0, 1, 2, 3, 4] rfl) (hD.sub (ws' := (wCnd G h0 aa ab ac ae n msz0 mCA mCB mCC mCE)) [0, 1, 2, 3, 4] (by decide) rfl) rfl rfl) rfl rfl hl.1 rfl (lv_room (Nat.le_of_ble_eq_true rfl)) dX1_putInOrder_57 ⟨Nat.le_of_ble_eq_true rfl, Nat.le_of_ble_eq_true rfl⟩) hP hD hS hA [0, 1, 2, 3, 4] [5] rfl rfl (by decide) (by decide) (fun H locs  hP hD hS => ?_)
    have hP : va_P (gD G) vwCl (wCndSt G h0 aa ab ac ae g0 n v_3.1 v_3.2.1 v_3.2.2.1 v_3.2.2.2.1 v_3.2.2.2.2 u1 u2 u3) H := hP.sub [1, 2, 3, 4, 5, 0] rfl
    have hD : va_D A (wCndSt G h0 aa ab ac ae g0 n v_3.1 v_3.2.1 v_3.2.2.1 v_3.2.2.2.1 v_3.2.2.2.2 u1 u2 u3) := hD.sub [1, 2, 3, 4, 5, 0] (by decide) rfl
    exact W.vret hx hb hr (fun t ht hW => ⟨⟨(v_3.1, v_3.2.1, v_3.2.2.1, v_3.2.2.2.1, v_3.2.2.2.2), rfl, so_e hF, qW_mk ht hP hK hW hD⟩, hS.F ht⟩) hS.2.2 dX1_putInOrder_60
  have hJ25 : ∀ (a2 : Int32) (a3 : Int32) (msz0 : Int32) (mCA : Nat → Int32) (mCB : Nat → Int32) (mCC : Nat → Int32) (mCE : Nat → Int32) (H : Heap) (locs : List Loc) (ls : Array Slot), JX1_putInOrder_25 n u1 u2 u3 a2 a3 msz0 mCA mCB mCC mCE = some res → va_P (gD G) vwCl (wCndSt G h0 aa ab ac ae g0 n msz0 mCA mCB mCC mCE u1 u2 u3) H → va_D A (wCndSt G h0 aa ab ac ae g0 n msz0 mCA mCB mCC mCE u1 u2 u3) → va_S A s.heap H locs → lv_has ls 4 [(0, .ref h0), (1, .ref g0), (2, .int a2), (3, .int a3)] → W p l e (headSpec wsX1_putInOrder rX1_putInOrder).room s m ([.ref h0, .ref g0, .int p1] : List Value).toArray below meth c H locs 0 0 (MQ below (va_Qv (fun (u : Int32 × (Nat → Int32) × (Nat → Int32) × (Nat → Int32) × (Nat → Int32)) => u = res) (fun u t => qW G A (wCndSt G h0 aa ab ac ae g0 n u.1 u.2.1 u.2.2.1 u.2.2.2.1 u.2.2.2.2 u1 u2 u3) t) A) ([.ref h0, .ref g0, .int p1] : List Value).toArray s 0 0 A) (F0 m 25 ls []) := by
    intro a2 a3 msz0 mCA mCB mCC mCE H locs ls hF hP hD hS hl
    unfold JX1_putInOrder_25 at hF
    refine lv_iload_n hx hb dX1_putInOrder_25 rfl (lv_at hl 3 rfl) ?_
    refine lv_aload_n hx hb dX1_putInOrder_26 rfl (lv_at hl 0 rfl) ?_
    refine va_get (ci := 1) (v := .int msz0) (C := RX1) (T := TX1) (N := 5) hx hb hts hin1 hown hK hP 0 rfl rfl 4 (by decide) hfl30 (fun _ h9 => h9) rfl dX1_putInOrder_27 ?_
    refine lv_icmp_eq (tgt := 42) hx hb dX1_putInOrder_30 (by decide) (fun c_2 => ?_) (fun c_2 => ?_)
    · replace hF := it_p c_2 hF
      exact hJ42 a2 a3 msz0 mCA mCB mCC mCE _ _ _ hF hP hD hS (lv_sub hl [0, 1, 2, 3] rfl)
    · replace hF := it_n c_2 hF
      refine lv_aload_n hx hb dX1_putInOrder_33 rfl (lv_at hl 0 rfl) ?_
      refine lv_iload_n hx hb dX1_putInOrder_34 rfl (lv_at hl 3 rfl) ?_
      refine lv_aload_n hx hb dX1_putInOrder_35 rfl (lv_at hl 1 rfl) ?_
      obtain ⟨v_4, hv_4, hF⟩ := bd_s hF
      refine ro_ie (va_runV (As := [.int a3, .ref g0]) (rest := []) ⟨hx, hb, hml, hown, hts⟩ (kX1_compare l G h0 aa ab ac ae g0 n msz0 mCA mCB mCC mCE u1 u2 u3 a3 v_4 hv_4) (cwV 2 hts gX1_putInOrder_X1_compare rfl rfl rfl (by decide +kernel) ⟨Nat.le_of_ble_eq_true rfl, Nat.le_of_ble_eq_true rfl⟩) (pvR (q0 := 0) 1 hK (hP.sub (ws' := (wCndSt G h0 aa ab ac ae g0 n msz0 mCA mCB mCC mCE u1 u2 u3)) [0, 1, 2, 3, 4, 5] rfl) rfl rfl) rfl rfl hl.1 rfl (lv_room (Nat.le_of_ble_eq_true rfl)) dX1_putInOrder_36 ⟨Nat.le_of_ble_eq_true rfl, Nat.le_of_ble_eq_true rfl⟩) ?_
      refine lv_if_eq (tgt := 60) hx hb dX1_putInOrder_39 (by decide) (fun c_5 => ?_) (fun c_5 => ?_)
      · replace hF := it_p c_5 hF
        exact W.vret hx hb hr (fun t ht hW => ⟨⟨(msz0, mCA, mCB, mCC, mCE), rfl, so_e hF, qW_mk ht hP hK hW hD⟩, hS.F ht⟩) hS.2.2 dX1_putInOrder_60
      · replace hF := it_n c_5 hF
        exact hJ42 a2 a3 msz0 mCA mCB mCC mCE _ _ _ hF hP hD hS (lv_sub hl [0, 1, 2, 3] rfl)
  have hL2 : ∀ (k : Nat), ∀ (a2 : Int32) (a3 : Int32) (msz0 : Int32) (mCA : Nat → Int32) (mCB : Nat → Int32) (mCC : Nat → Int32) (mCE : Nat → Int32) (H : Heap) (locs : List Loc) (ls : Array Slot), LX1_putInOrder_2 n u1 u2 u3 k a2 a3 msz0 mCA mCB mCC mCE = some res → va_P (gD G) vwCl (wCndSt G h0 aa ab ac ae g0 n msz0 mCA mCB mCC mCE u1 u2 u3) H → va_D A (wCndSt G h0 aa ab ac ae g0 n msz0 mCA mCB mCC mCE u1 u2 u3) → va_S A s.heap H locs → lv_has ls 4 [(0, .ref h0), (1, .ref g0), (2, .int a2), (3, .int a3)] → W p l e (headSpec wsX1_putInOrder rX1_putInOrder).room s m ([.ref h0, .ref g0, .int p1] : List Value).toArray below meth c H locs 0 0 (MQ below (va_Qv (fun (u : Int32 × (Nat → Int32) × (Nat → Int32) × (Nat → Int32) × (Nat → Int32)) => u = res) (fun u t => qW G A (wCndSt G h0 aa ab ac ae g0 n u.1 u.2.1 u.2.2.1 u.2.2.2.1 u.2.2.2.2 u1 u2 u3) t) A) ([.ref h0, .ref g0, .int p1] : List Value).toArray s 0 0 A) (F0 m 2 ls []) := by
    intro k
    induction k with
    | zero =>
      intro a2 a3 msz0 mCA mCB mCC mCE H locs ls hF hP hD hS hl
      rw [LX1_putInOrder_2] at hF
      cases hF
    | succ k ih =>
      intro a2 a3 msz0 mCA mCB mCC mCE H locs ls hF hP hD hS hl
      rw [LX1_putInOrder_2] at hF
      refine lv_iload_n hx hb dX1_putInOrder_2 rfl (lv_at hl 3 rfl) ?_
      refine lv_aload_n hx hb dX1_putInOrder_3 rfl (lv_at hl 0 rfl) ?_
      refine va_get (ci := 1) (v := .int msz0) (C := RX1) (T := TX1) (N := 5) hx hb hts hin1 hown hK hP 0 rfl rfl 4 (by decide) hfl30 (fun _ h9 => h9) rfl dX1_putInOrder_4 ?_
      refine lv_icmp_ge (tgt := 25) hx hb dX1_putInOrder_7 (by decide) (fun c_1 => ?_) (fun c_1 => ?_)
      · replace hF := it_p c_1 hF
        exact hJ25 a2 a3 msz0 mCA mCB mCC mCE _ _ _ hF hP hD hS (lv_sub hl [0, 1, 2, 3] rfl)
      · replace hF := it_n c_1 hF
        refine lv_aload_n hx hb dX1_putInOrder_10 rfl (lv_at hl 0 rfl) ?_
        refine lv_iload_n hx hb dX1_putInOrder_11 rfl (lv_at hl 3 rfl) ?_
        refine lv_aload_n hx hb dX1_putInOrder_12 rfl (lv_at hl 1 rfl) ?_
        obtain ⟨v_6, hv_6, hF⟩ := bd_s hF
        refine ro_ie (va_runV (As := [.int a3, .ref g0]) (rest := []) ⟨hx, hb, hml, hown, hts⟩ (kX1_compare l G h0 aa ab ac ae g0 n msz0 mCA mCB mCC mCE u1 u2 u3 a3 v_6 hv_6) (cwV 2 hts gX1_putInOrder_X1_compare rfl rfl rfl (by decide +kernel) ⟨Nat.le_of_ble_eq_true rfl, Nat.le_of_ble_eq_true rfl⟩) (pvR (q0 := 0) 1 hK (hP.sub (ws' := (wCndSt G h0 aa ab ac ae g0 n msz0 mCA mCB mCC mCE u1 u2 u3)) [0, 1, 2, 3, 4, 5] rfl) rfl rfl) rfl rfl hl.1 rfl (lv_room (Nat.le_of_ble_eq_true rfl)) dX1_putInOrder_13 ⟨Nat.le_of_ble_eq_true rfl, Nat.le_of_ble_eq_true rfl⟩) ?_
        refine lv_if_ge (tgt := 25) hx hb dX1_putInOrder_16 (by decide) (fun c_7 => ?_) (fun c_7 => ?_)
        · replace hF := it_p c_7 hF
          exact hJ25 a2 a3 msz0 mCA mCB mCC mCE _ _ _ hF hP hD hS (lv_sub hl [0, 1, 2, 3] rfl)
        · replace hF := it_n c_7 hF
          refine lv_iinc (v := a3 + 1) (lv' := [(3, .int (a3 + 1)), (0, .ref h0), (1, .ref g0), (2, .int a2)]) hx hb dX1_putInOrder_19 hl (k := 3) rfl rfl (by decide) rfl (fun ls hl => ?_)
          refine lv_goto (tgt := 2) hx hb dX1_putInOrder_22 (by decide) ?_
          exact ih a2 (a3 + 1) msz0 mCA mCB mCC mCE _ _ _ hF hP hD hS (lv_sub hl [1, 2, 3, 0] rfl)
  unfold fX1_putInOrder at hF
  refine lv_iconst (v := 0) hx hb dX1_putInOrder_0 (by decide) ?_
  refine lv_istore_n (lv' := [(3, .int 0), (0, .ref h0), (1, .ref g0), (2, .int p1)]) hx hb dX1_putInOrder_1 rfl hl (by decide) rfl (fun ls hl => ?_)
  exact hL2 FU p1 0 sz0 CA CB CC CE _ _ _ hF hP hD hS (lv_sub hl [1, 2, 3, 0] rfl)
def fX1_excess (n : Nat) (CA : Nat → Int32) (CB : Nat → Int32) (CC : Nat → Int32) (CE : Nat → Int32) (p1 : Int32) (p2 : Int64) (p3 : Int64) (p4 : Int64) (p5 : Int64) : Option (Int64) :=
  (gd_in p1 n (some ((((((CA p1.toNatClampNeg).toInt64) * p2) + (((CB p1.toNatClampNeg).toInt64) * p3)) + (((CC p1.toNatClampNeg).toInt64) * p4)) - (((CE p1.toNatClampNeg).toInt64) * p5))))
abbrev rX1_excess : Room := { frames := 0, cells := 0, slots := 0, locals := 0 }
set_option maxHeartbeats 40000000 in
set_option maxRecDepth 100000 in
theorem kX1_excess (l : Launch) (G : GT) (h0 aa ab ac ae : Nat) (n : Nat) (sz0 : Int32) (CA : Nat → Int32) (CB : Nat → Int32) (CC : Nat → Int32) (CE : Nat → Int32) (p1 : Int32) (p2 : Int64) (p3 : Int64) (p4 : Int64) (p5 : Int64) (res : Int64) (hF : fX1_excess n CA CB CC CE p1 p2 p3 p4 p5 = some res) : Met l yX1_excess wsX1_excess rX1_excess (va_Pc [.ref h0, .int p1, .long p2, .long p3, .long p4, .long p5] (pR G (wCnd G h0 aa ab ac ae n sz0 CA CB CC CE))) (vp_Sl (fun r => r = res)) 0 0 (fun _ => False) := by
  refine Met.ofW (cc := cX1_excess) (maxL := 10) (ret := (some .long)) (by decide) rfl ?_
  intro p e s m args below meth c s₁ B hml hv
  obtain ⟨rfl, hP, hK⟩ := hv
  have hx := B.exec
  have hb := B.bytes
  have hr := B.returns
  have hts := atoms_spec (ws := wsX1_excess) B.pre
  have hown : s.vm.findClass RX1 = some m.cls := findClass_of_methodNamed B.named
  have hlocks := B.notSynchronized
  have hin1 : ∀ w ∈ u_ws RX1 TX1 5, w ∈ wsX1_excess := by decide +kernel
  have hfl15 := hts (.fieldLink RX1 15 "SwellBodies$Conditions" "a" "[I") (by decide +kernel)
  have hfl21 := hts (.fieldLink RX1 21 "SwellBodies$Conditions" "b" "[I") (by decide +kernel)
  have hfl24 := hts (.fieldLink RX1 24 "SwellBodies$Conditions" "c" "[I") (by decide +kernel)
  have hfl27 := hts (.fieldLink RX1 27 "SwellBodies$Conditions" "e" "[I") (by decide +kernel)
  have hl := lv_entry ([.ref h0, .int p1, .long p2, .long p3, .long p4, .long p5]) (n := 10) (Nat.le_of_ble_eq_true rfl)
  rw [lg_entry_eq]
  generalize (lg_sl ([.ref h0, .int p1, .long p2, .long p3, .long p4, .long p5]) ++ List.replicate (10 - (lg_sl ([.ref h0, .int p1, .long p2, .long p3, .long p4, .long p5])).length) Slot.unset).toArray = ls at hl ⊢
  have hl : lv_has ls 10 [(0, .ref h0), (1, .int p1), (2, .long p2), (4, .long p3), (6, .long p4), (8, .long p5)] := hl
  unfold fX1_excess at hF
  refine lv_aload_n hx hb dX1_excess_0 rfl (lv_at hl 0 rfl) ?_
  refine va_get (ci := 1) (v := .ref aa) (C := RX1) (T := TX1) (N := 5) hx hb hts hin1 hown hK hP 0 rfl rfl 0 (by decide) hfl15 (fun _ h9 => h9) rfl dX1_excess_1 ?_
  refine lv_iload_n hx hb dX1_excess_4 rfl (lv_at hl 1 rfl) ?_
  obtain ⟨hi_1, hF⟩ := gd_in_s hF
  refine va_iald hx hb hK hP 1 0 rfl rfl hi_1 dX1_excess_5 ?_
  refine lv_i2l hx hb dX1_excess_6 rfl ?_
  refine lv_lload_n hx hb dX1_excess_7 rfl (lv_at hl 2 rfl) ?_
  refine lv_lmul hx hb dX1_excess_8 ?_
  refine lv_aload_n hx hb dX1_excess_9 rfl (lv_at hl 0 rfl) ?_
  refine va_get (ci := 1) (v := .ref ab) (C := RX1) (T := TX1) (N := 5) hx hb hts hin1 hown hK hP 0 rfl rfl 1 (by decide) hfl21 (fun _ h9 => h9) rfl dX1_excess_10 ?_
  refine lv_iload_n hx hb dX1_excess_13 rfl (lv_at hl 1 rfl) ?_
  refine va_iald hx hb hK hP 2 0 rfl rfl hi_1 dX1_excess_14 ?_
  refine lv_i2l hx hb dX1_excess_15 rfl ?_
  refine lv_lload hx hb dX1_excess_16 (lv_at hl 3 rfl) ?_
  refine lv_lmul hx hb dX1_excess_18 ?_
  refine lv_ladd hx hb dX1_excess_19 ?_
  refine lv_aload_n hx hb dX1_excess_20 rfl (lv_at hl 0 rfl) ?_
  refine va_get (ci := 1) (v := .ref ac) (C := RX1) (T := TX1) (N := 5) hx hb hts hin1 hown hK hP 0 rfl rfl 2 (by decide) hfl24 (fun _ h9 => h9) rfl dX1_excess_21 ?_
  refine lv_iload_n hx hb dX1_excess_24 rfl (lv_at hl 1 rfl) ?_
  refine va_iald hx hb hK hP 3 0 rfl rfl hi_1 dX1_excess_25 ?_
  refine lv_i2l hx hb dX1_excess_26 rfl ?_
  refine lv_lload hx hb dX1_excess_27 (lv_at hl 4 rfl) ?_
  refine lv_lmul hx hb dX1_excess_29 ?_
  refine lv_ladd hx hb dX1_excess_30 ?_
  refine lv_aload_n hx hb dX1_excess_31 rfl (lv_at hl 0 rfl) ?_
  refine va_get (ci := 1) (v := .ref ae) (C := RX1) (T := TX1) (N := 5) hx hb hts hin1 hown hK hP 0 rfl rfl 3 (by decide) hfl27 (fun _ h9 => h9) rfl dX1_excess_32 ?_
  refine lv_iload_n hx hb dX1_excess_35 rfl (lv_at hl 1 rfl) ?_
  refine va_iald hx hb hK hP 4 0 rfl rfl hi_1 dX1_excess_36 ?_
  refine lv_i2l hx hb dX1_excess_37 rfl ?_
  refine lv_lload hx hb dX1_excess_38 (lv_at hl 5 rfl) ?_
  refine lv_lmul hx hb dX1_excess_40 ?_
  refine lv_lsub hx hb dX1_excess_41 ?_
  exact W.lret (v := (((((CA p1.toNatClampNeg).toInt64) * p2) + (((CB p1.toNatClampNeg).toInt64) * p3)) + (((CC p1.toNatClampNeg).toInt64) * p4)) - (((CE p1.toNatClampNeg).toInt64) * p5)) hx hb hr  (fun t ht hW => ⟨(((((CA p1.toNatClampNeg).toInt64) * p2) + (((CB p1.toNatClampNeg).toInt64) * p3)) + (((CC p1.toNatClampNeg).toInt64) * p4)) - (((CE p1.toNatClampNeg).toInt64) * p5), rfl, (so_e hF), ht⟩) (fun q h => absurd h List.not_mem_nil) dX1_excess_42
def JX1_touched_50 (n : Nat) (n2 : Nat) (sz0 : Int32) (CA : Nat → Int32) (CB : Nat → Int32) (CC : Nat → Int32) (CE : Nat → Int32) (U : Nat → Int32) (V : Nat → Int32) (T : Nat → Int32) (k5 : Int32 → Int32 → Int32 → Option (Int32)) (a2 : Int32) (a3 : Int32) (a4 : Int32) : Option (Int32) :=
  (k5 a2 a3 (a4 + 1))
def LX1_touched_5 (n : Nat) (n2 : Nat) (sz0 : Int32) (CA : Nat → Int32) (CB : Nat → Int32) (CC : Nat → Int32) (CE : Nat → Int32) (U : Nat → Int32) (V : Nat → Int32) (T : Nat → Int32)  : Nat → Int32 → Int32 → Int32 → Option (Int32)
  | 0, _, _, _ => none
  | k + 1, a2, a3, a4 =>
  (if sz0 ≤ a4 then (some a3) else (gd_in a2 n2 (bd (fX1_excess n CA CB CC CE a4 ((U a2.toNatClampNeg).toInt64) ((V a2.toNatClampNeg).toInt64) ((T a2.toNatClampNeg).toInt64) 1) (fun v_3 => (if lg_cmp v_3 0 = 0 then (JX1_touched_50 n n2 sz0 CA CB CC CE U V T (LX1_touched_5 n n2 sz0 CA CB CC CE U V T k) a2 (a3 + 1) a4) else (JX1_touched_50 n n2 sz0 CA CB CC CE U V T (LX1_touched_5 n n2 sz0 CA CB CC CE U V T k) a2 a3 a4))))))
def fX1_touched (n : Nat) (n2 : Nat) (sz0 : Int32) (CA : Nat → Int32) (CB : Nat → Int32) (CC : Nat → Int32) (CE : Nat → Int32) (U : Nat → Int32) (V : Nat → Int32) (T : Nat → Int32) (p1 : Int32) : Option (Int32) :=
  (LX1_touched_5 n n2 sz0 CA CB CC CE U V T FU p1 0 0)
abbrev rX1_touched : Room := { frames := 1, cells := 0, slots := 0, locals := 29 }
set_option maxHeartbeats 40000000 in
set_option maxRecDepth 100000 in
theorem kX1_touched (l : Launch) (G : GT) (h0 aa ab ac ae g0 bX bY bZ : Nat) (n n2 : Nat) (sz0 : Int32) (CA : Nat → Int32) (CB : Nat → Int32) (CC : Nat → Int32) (CE : Nat → Int32) (sz1 : Int32) (U : Nat → Int32) (V : Nat → Int32) (T : Nat → Int32) (p1 : Int32) (res : Int32) (hF : fX1_touched n n2 sz0 CA CB CC CE U V T p1 = some res) : Met l yX1_touched wsX1_touched rX1_touched (va_Pc [.ref h0, .ref g0, .int p1] (pR G (wCndPt G h0 aa ab ac ae g0 bX bY bZ n n2 sz0 CA CB CC CE sz1 U V T))) (vp_Si (fun r => r = res)) 0 0 (fun _ => False) := by
  refine Met.ofW (cc := cX1_touched) (maxL := 5) (ret := (some .int)) (by decide) rfl ?_
  intro p e s m args below meth c s₁ B hml hv
  obtain ⟨rfl, hP, hK⟩ := hv
  have hx := B.exec
  have hb := B.bytes
  have hr := B.returns
  have hts := atoms_spec (ws := wsX1_touched) B.pre
  have hown : s.vm.findClass RX1 = some m.cls := findClass_of_methodNamed B.named
  have hlocks := B.notSynchronized
  have hin1 : ∀ w ∈ u_ws RX1 TX1 5, w ∈ wsX1_touched := by decide +kernel
  have hfl30 := hts (.fieldLink RX1 30 "SwellBodies$Conditions" "size" "I") (by decide +kernel)
  have hin4 : ∀ w ∈ u_ws RX4 TX4 4, w ∈ wsX1_touched := by decide +kernel
  have hfl62 := hts (.fieldLink RX1 62 "SwellBodies$Points" "x" "[I") (by decide +kernel)
  have hfl66 := hts (.fieldLink RX1 66 "SwellBodies$Points" "y" "[I") (by decide +kernel)
  have hfl68 := hts (.fieldLink RX1 68 "SwellBodies$Points" "z" "[I") (by decide +kernel)
  have hl := lv_entry ([.ref h0, .ref g0, .int p1]) (n := 5) (Nat.le_of_ble_eq_true rfl)
  rw [lg_entry_eq]
  generalize (lg_sl ([.ref h0, .ref g0, .int p1]) ++ List.replicate (5 - (lg_sl ([.ref h0, .ref g0, .int p1])).length) Slot.unset).toArray = ls at hl ⊢
  have hl : lv_has ls 5 [(0, .ref h0), (1, .ref g0), (2, .int p1)] := hl
  have hJ50 : ∀ (k5 : Int32 → Int32 → Int32 → Option (Int32)), (∀ (a2 : Int32) (a3 : Int32) (a4 : Int32) (ls : Array Slot), k5 a2 a3 a4 = some res → lv_has ls 5 [(0, .ref h0), (1, .ref g0), (2, .int a2), (3, .int a3), (4, .int a4)] → W p l e (headSpec wsX1_touched rX1_touched).room s m ([.ref h0, .ref g0, .int p1] : List Value).toArray below meth c s.heap [] 0 0 (MQ below (vp_Si (fun r => r = res)) ([.ref h0, .ref g0, .int p1] : List Value).toArray s 0 0 (fun _ => False)) (F0 m 5 ls [])) → ∀ (a2 : Int32) (a3 : Int32) (a4 : Int32) (ls : Array Slot), JX1_touched_50 n n2 sz0 CA CB CC CE U V T k5 a2 a3 a4 = some res → lv_has ls 5 [(0, .ref h0), (1, .ref g0), (2, .int a2), (3, .int a3), (4, .int a4)] → W p l e (headSpec wsX1_touched rX1_touched).room s m ([.ref h0, .ref g0, .int p1] : List Value).toArray below meth c s.heap [] 0 0 (MQ below (vp_Si (fun r => r = res)) ([.ref h0, .ref g0, .int p1] : List Value).toArray s 0 0 (fun _ => False)) (F0 m 50 ls []) := by
    intro k5 hk5
    intro a2 a3 a4 ls hF hl
    unfold JX1_touched_50 at hF
    refine lv_iinc (v := a4 + 1) (lv' := [(4, .int (a4 + 1)), (0, .ref h0), (1, .ref g0), (2, .int a2), (3, .int a3)]) hx hb dX1_touched_50 hl (k := 4) rfl rfl (by decide) rfl (fun ls hl => ?_)
    refine lv_goto (tgt := 5) hx hb dX1_touched_53 (by decide) ?_
    exact hk5 a2 a3 (a4 + 1) _ hF (lv_sub hl [1, 2, 3, 4, 0] rfl)
  have hL5 : ∀ (k : Nat), ∀ (a2 : Int32) (a3 : Int32) (a4 : Int32) (ls : Array Slot), LX1_touched_5 n n2 sz0 CA CB CC CE U V T k a2 a3 a4 = some res → lv_has ls 5 [(0, .ref h0), (1, .ref g0), (2, .int a2), (3, .int a3), (4, .int a4)] → W p l e (headSpec wsX1_touched rX1_touched).room s m ([.ref h0, .ref g0, .int p1] : List Value).toArray below meth c s.heap [] 0 0 (MQ below (vp_Si (fun r => r = res)) ([.ref h0, .ref g0, .int p1] : List Value).toArray s 0 0 (fun _ => False)) (F0 m 5 ls []) := by
    intro k
    induction k with
    | zero =>
      intro a2 a3 a4 ls hF hl
      rw [LX1_touched_5] at hF
      cases hF
    | succ k ih =>
      intro a2 a3 a4 ls hF hl
      rw [LX1_touched_5] at hF
      refine lv_iload hx hb dX1_touched_5 (lv_at hl 4 rfl) ?_
      refine lv_aload_n hx hb dX1_touched_7 rfl (lv_at hl 0 rfl) ?_
      refine va_get (ci := 1) (v := .int sz0) (C := RX1) (T := TX1) (N := 5) hx hb hts hin1 hown hK hP 0 rfl rfl 4 (by decide) hfl30 (fun _ h9 => h9) rfl dX1_touched_8 ?_
      refine lv_icmp_ge (tgt := 56) hx hb dX1_touched_11 (by decide) (fun c_1 => ?_) (fun c_1 => ?_)
      · replace hF := it_p c_1 hF
        refine lv_iload_n hx hb dX1_touched_56 rfl (lv_at hl 3 rfl) ?_
        exact W.iret (v := a3) hx hb hr  (fun t ht hW => ⟨a3, rfl, (so_e hF), ht⟩) (fun q h => absurd h List.not_mem_nil) dX1_touched_57
      · replace hF := it_n c_1 hF
        refine lv_aload_n hx hb dX1_touched_14 rfl (lv_at hl 0 rfl) ?_
        refine lv_iload hx hb dX1_touched_15 (lv_at hl 4 rfl) ?_
        refine lv_aload_n hx hb dX1_touched_17 rfl (lv_at hl 1 rfl) ?_
        refine va_get (ci := 4) (v := .ref bX) (C := RX4) (T := TX4) (N := 4) hx hb hts hin4 hown hK hP 5 rfl rfl 0 (by decide) hfl62 (fun _ h9 => h9) rfl dX1_touched_18 ?_
        refine lv_iload_n hx hb dX1_touched_21 rfl (lv_at hl 2 rfl) ?_
        obtain ⟨hi_2, hF⟩ := gd_in_s hF
        refine va_iald hx hb hK hP 6 0 rfl rfl hi_2 dX1_touched_22 ?_
        refine lv_i2l hx hb dX1_touched_23 rfl ?_
        refine lv_aload_n hx hb dX1_touched_24 rfl (lv_at hl 1 rfl) ?_
        refine va_get (ci := 4) (v := .ref bY) (C := RX4) (T := TX4) (N := 4) hx hb hts hin4 hown hK hP 5 rfl rfl 1 (by decide) hfl66 (fun _ h9 => h9) rfl dX1_touched_25 ?_
        refine lv_iload_n hx hb dX1_touched_28 rfl (lv_at hl 2 rfl) ?_
        refine va_iald hx hb hK hP 7 0 rfl rfl hi_2 dX1_touched_29 ?_
        refine lv_i2l hx hb dX1_touched_30 rfl ?_
        refine lv_aload_n hx hb dX1_touched_31 rfl (lv_at hl 1 rfl) ?_
        refine va_get (ci := 4) (v := .ref bZ) (C := RX4) (T := TX4) (N := 4) hx hb hts hin4 hown hK hP 5 rfl rfl 2 (by decide) hfl68 (fun _ h9 => h9) rfl dX1_touched_32 ?_
        refine lv_iload_n hx hb dX1_touched_35 rfl (lv_at hl 2 rfl) ?_
        refine va_iald hx hb hK hP 8 0 rfl rfl hi_2 dX1_touched_36 ?_
        refine lv_i2l hx hb dX1_touched_37 rfl ?_
        refine lv_lconst (v := 1) hx hb dX1_touched_38 (by decide) ?_
        obtain ⟨v_3, hv_3, hF⟩ := bd_s hF
        refine ro_le (va_runV (As := [.int a4, .long ((U a2.toNatClampNeg).toInt64), .long ((V a2.toNatClampNeg).toInt64), .long ((T a2.toNatClampNeg).toInt64), .long 1]) (rest := []) ⟨hx, hb, hml, hown, hts⟩ (kX1_excess l G h0 aa ab ac ae n sz0 CA CB CC CE a4 ((U a2.toNatClampNeg).toInt64) ((V a2.toNatClampNeg).toInt64) ((T a2.toNatClampNeg).toInt64) 1 v_3 hv_3) (cwV 5 hts gX1_touched_X1_excess rfl rfl rfl (by decide +kernel) ⟨Nat.le_of_ble_eq_true rfl, Nat.le_of_ble_eq_true rfl⟩) (pvR (q0 := 0) 1 hK (hP.sub (ws' := (wCnd G h0 aa ab ac ae n sz0 CA CB CC CE)) [0, 1, 2, 3, 4] rfl) rfl rfl) rfl rfl hl.1 rfl (lv_room (Nat.le_of_ble_eq_true rfl)) dX1_touched_39 ⟨Nat.le_of_ble_eq_true rfl, Nat.le_of_ble_eq_true rfl⟩) ?_
        refine lv_lconst (v := 0) hx hb dX1_touched_42 (by decide) ?_
        refine W.lcmp hx hb dX1_touched_43 ?_
        refine lv_if_ne (tgt := 50) hx hb dX1_touched_44 (by decide) (fun c_4 => ?_) (fun c_4 => ?_)
        · replace hF := it_n c_4 hF
          exact hJ50 _ ih a2 a3 a4 _ hF (lv_sub hl [0, 1, 2, 3, 4] rfl)
        · replace hF := it_p c_4 hF
          refine lv_iinc (v := a3 + 1) (lv' := [(3, .int (a3 + 1)), (0, .ref h0), (1, .ref g0), (2, .int a2), (4, .int a4)]) hx hb dX1_touched_47 hl (k := 3) rfl rfl (by decide) rfl (fun ls hl => ?_)
          exact hJ50 _ ih a2 (a3 + 1) a4 _ hF (lv_sub hl [1, 2, 3, 0, 4] rfl)
  unfold fX1_touched at hF
  refine lv_iconst (v := 0) hx hb dX1_touched_0 (by decide) ?_
  refine lv_istore_n (lv' := [(3, .int 0), (0, .ref h0), (1, .ref g0), (2, .int p1)]) hx hb dX1_touched_1 rfl hl (by decide) rfl (fun ls hl => ?_)
  refine lv_iconst (v := 0) hx hb dX1_touched_2 (by decide) ?_
  refine lv_istore (lv' := [(4, .int 0), (3, .int 0), (0, .ref h0), (1, .ref g0), (2, .int p1)]) hx hb dX1_touched_3 hl (by decide) rfl (fun ls hl => ?_)
  exact hL5 FU p1 0 0 _ hF (lv_sub hl [2, 3, 4, 1, 0] rfl)
def fX6_lead (n2 : Nat) (x1 : Int32) (x2 : Int32) (x3 : Int32) (U : Nat → Int32) (V : Nat → Int32) (T : Nat → Int32) (p1 : Int32) (p2 : Int32) : Option (Int32 × Int32 × Int32) :=
  (gd_in p2 n2 (gd_in p1 n2 (some ((U p2.toNatClampNeg) - (U p1.toNatClampNeg), (V p2.toNatClampNeg) - (V p1.toNatClampNeg), (T p2.toNatClampNeg) - (T p1.toNatClampNeg)))))
abbrev rX6_lead : Room := { frames := 0, cells := 0, slots := 0, locals := 0 }
set_option maxHeartbeats 40000000 in
set_option maxRecDepth 100000 in
theorem kX6_lead (l : Launch) (G : GT) (h0 g0 bX bY bZ : Nat) (sz : Nat) (n2 : Nat) (x1 : Int32) (x2 : Int32) (x3 : Int32) (sz1 : Int32) (U : Nat → Int32) (V : Nat → Int32) (T : Nat → Int32) (p1 : Int32) (p2 : Int32) (res : Int32 × Int32 × Int32) (hF : fX6_lead n2 x1 x2 x3 U V T p1 p2 = some res) : Met l yX6_lead wsX6_lead rX6_lead (va_Pc [.ref h0, .ref g0, .int p1, .int p2] (pW G sz (wStpPt G h0 g0 bX bY bZ n2 x1 x2 x3 sz1 U V T))) (va_Qv (fun (u : Int32 × Int32 × Int32) => u = res) (fun u t => qW G (va_A (wStpPt G h0 g0 bX bY bZ n2 x1 x2 x3 sz1 U V T) sz) (wStpPt G h0 g0 bX bY bZ n2 u.1 u.2.1 u.2.2 sz1 U V T) t) (va_A (wStpPt G h0 g0 bX bY bZ n2 x1 x2 x3 sz1 U V T) sz)) 0 0 (va_A (wStpPt G h0 g0 bX bY bZ n2 x1 x2 x3 sz1 U V T) sz) := by
  refine Met.ofW (cc := cX6_lead) (maxL := 4) (ret := none) (by decide) rfl ?_
  intro p e s m args below meth c s₁ B hml hv
  obtain ⟨rfl, hsz, hP, hK, hD0⟩ := hv
  have hx := B.exec
  have hb := B.bytes
  have hr := B.returns
  have hts := atoms_spec (ws := wsX6_lead) B.pre
  have hown : s.vm.findClass RX6 = some m.cls := findClass_of_methodNamed B.named
  have hlocks := B.notSynchronized
  subst hsz
  have hD := hD0.self (sz := s.heap.size)
  generalize hAe : va_A (wStpPt G h0 g0 bX bY bZ n2 x1 x2 x3 sz1 U V T) s.heap.size = A at hD ⊢
  have hA : ∀ q : Nat, s.heap.size ≤ q → A q := fun q h => by rw [← hAe]; exact Or.inr h
  have hS : va_S A s.heap s.heap [] := va_S.rf
  have hin4 : ∀ w ∈ u_ws RX4 TX4 4, w ∈ wsX6_lead := by decide +kernel
  have hfl7 := hts (.fieldLink RX6 7 "SwellBodies$Points" "x" "[I") (by decide +kernel)
  have hin6 : ∀ w ∈ u_ws RX6 TX6 3, w ∈ wsX6_lead := by decide +kernel
  have hfl13 := hts (.fieldLink RX6 13 "SwellBodies$Step" "x" "I") (by decide +kernel)
  have hfl18 := hts (.fieldLink RX6 18 "SwellBodies$Points" "y" "[I") (by decide +kernel)
  have hfl21 := hts (.fieldLink RX6 21 "SwellBodies$Step" "y" "I") (by decide +kernel)
  have hfl23 := hts (.fieldLink RX6 23 "SwellBodies$Points" "z" "[I") (by decide +kernel)
  have hfl26 := hts (.fieldLink RX6 26 "SwellBodies$Step" "z" "I") (by decide +kernel)
  have hl := lv_entry ([.ref h0, .ref g0, .int p1, .int p2]) (n := 4) (Nat.le_of_ble_eq_true rfl)
  rw [lg_entry_eq]
  generalize (lg_sl ([.ref h0, .ref g0, .int p1, .int p2]) ++ List.replicate (4 - (lg_sl ([.ref h0, .ref g0, .int p1, .int p2])).length) Slot.unset).toArray = ls at hl ⊢
  have hl : lv_has ls 4 [(0, .ref h0), (1, .ref g0), (2, .int p1), (3, .int p2)] := hl
  unfold fX6_lead at hF
  refine lv_aload_n hx hb dX6_lead_0 rfl (lv_at hl 0 rfl) ?_
  refine lv_aload_n hx hb dX6_lead_1 rfl (lv_at hl 1 rfl) ?_
  refine va_get (ci := 4) (v := .ref bX) (C := RX4) (T := TX4) (N := 4) hx hb hts hin4 hown hK hP 1 rfl rfl 0 (by decide) hfl7 (fun _ h9 => h9) rfl dX6_lead_2 ?_
  refine lv_iload_n hx hb dX6_lead_5 rfl (lv_at hl 3 rfl) ?_
  obtain ⟨hi_1, hF⟩ := gd_in_s hF
  refine va_iald hx hb hK hP 2 0 rfl rfl hi_1 dX6_lead_6 ?_
  refine lv_aload_n hx hb dX6_lead_7 rfl (lv_at hl 1 rfl) ?_
  refine va_get (ci := 4) (v := .ref bX) (C := RX4) (T := TX4) (N := 4) hx hb hts hin4 hown hK hP 1 rfl rfl 0 (by decide) hfl7 (fun _ h9 => h9) rfl dX6_lead_8 ?_
  refine lv_iload_n hx hb dX6_lead_11 rfl (lv_at hl 2 rfl) ?_
  obtain ⟨hi_2, hF⟩ := gd_in_s hF
  refine va_iald hx hb hK hP 2 0 rfl rfl hi_2 dX6_lead_12 ?_
  refine lv_isub hx hb dX6_lead_13 ?_
  refine va_put (ci := 6) (v := .int ((U p2.toNatClampNeg) - (U p1.toNatClampNeg))) (ty := .int) (C := RX6) (T := TX6) (N := 3) hx hb hts hin6 tyX6 tyX6_ok nmX6 hown hK hP hD hS 0 rfl rfl 0 (by decide) hfl13 (fun _ h9 => h9) rfl (by decide +kernel) rfl rfl (Nat.le_of_ble_eq_true rfl) dX6_lead_14 (fun H locs hP hD hS => ?_)
  have hP : va_P (gD G) vwCl (wStpPt G h0 g0 bX bY bZ n2 ((U p2.toNatClampNeg) - (U p1.toNatClampNeg)) x2 x3 sz1 U V T) H := hP
  have hD : va_D A (wStpPt G h0 g0 bX bY bZ n2 ((U p2.toNatClampNeg) - (U p1.toNatClampNeg)) x2 x3 sz1 U V T) := hD
  refine lv_aload_n hx hb dX6_lead_17 rfl (lv_at hl 0 rfl) ?_
  refine lv_aload_n hx hb dX6_lead_18 rfl (lv_at hl 1 rfl) ?_
  refine va_get (ci := 4) (v := .ref bY) (C := RX4) (T := TX4) (N := 4) hx hb hts hin4 hown hK hP 1 rfl rfl 1 (by decide) hfl18 (fun _ h9 => h9) rfl dX6_lead_19 ?_
  refine lv_iload_n hx hb dX6_lead_22 rfl (lv_at hl 3 rfl) ?_
  refine va_iald hx hb hK hP 3 0 rfl rfl hi_1 dX6_lead_23 ?_
  refine lv_aload_n hx hb dX6_lead_24 rfl (lv_at hl 1 rfl) ?_
  refine va_get (ci := 4) (v := .ref bY) (C := RX4) (T := TX4) (N := 4) hx hb hts hin4 hown hK hP 1 rfl rfl 1 (by decide) hfl18 (fun _ h9 => h9) rfl dX6_lead_25 ?_
  refine lv_iload_n hx hb dX6_lead_28 rfl (lv_at hl 2 rfl) ?_
  refine va_iald hx hb hK hP 3 0 rfl rfl hi_2 dX6_lead_29 ?_
  refine lv_isub hx hb dX6_lead_30 ?_
  refine va_put (ci := 6) (v := .int ((V p2.toNatClampNeg) - (V p1.toNatClampNeg))) (ty := .int) (C := RX6) (T := TX6) (N := 3) hx hb hts hin6 tyX6 tyX6_ok nmX6 hown hK hP hD hS 0 rfl rfl 1 (by decide) hfl21 (fun _ h9 => h9) rfl (by decide +kernel) rfl rfl (Nat.le_of_ble_eq_true rfl) dX6_lead_31 (fun H locs hP hD hS => ?_)
  have hP : va_P (gD G) vwCl (wStpPt G h0 g0 bX bY bZ n2 ((U p2.toNatClampNeg) - (U p1.toNatClampNeg)) ((V p2.toNatClampNeg) - (V p1.toNatClampNeg)) x3 sz1 U V T) H := hP
  have hD : va_D A (wStpPt G h0 g0 bX bY bZ n2 ((U p2.toNatClampNeg) - (U p1.toNatClampNeg)) ((V p2.toNatClampNeg) - (V p1.toNatClampNeg)) x3 sz1 U V T) := hD
  refine lv_aload_n hx hb dX6_lead_34 rfl (lv_at hl 0 rfl) ?_
  refine lv_aload_n hx hb dX6_lead_35 rfl (lv_at hl 1 rfl) ?_
  refine va_get (ci := 4) (v := .ref bZ) (C := RX4) (T := TX4) (N := 4) hx hb hts hin4 hown hK hP 1 rfl rfl 2 (by decide) hfl23 (fun _ h9 => h9) rfl dX6_lead_36 ?_
  refine lv_iload_n hx hb dX6_lead_39 rfl (lv_at hl 3 rfl) ?_
  refine va_iald hx hb hK hP 4 0 rfl rfl hi_1 dX6_lead_40 ?_
  refine lv_aload_n hx hb dX6_lead_41 rfl (lv_at hl 1 rfl) ?_
  refine va_get (ci := 4) (v := .ref bZ) (C := RX4) (T := TX4) (N := 4) hx hb hts hin4 hown hK hP 1 rfl rfl 2 (by decide) hfl23 (fun _ h9 => h9) rfl dX6_lead_42 ?_
  refine lv_iload_n hx hb dX6_lead_45 rfl (lv_at hl 2 rfl) ?_
  refine va_iald hx hb hK hP 4 0 rfl rfl hi_2 dX6_lead_46 ?_
  refine lv_isub hx hb dX6_lead_47 ?_
  refine va_put (ci := 6) (v := .int ((T p2.toNatClampNeg) - (T p1.toNatClampNeg))) (ty := .int) (C := RX6) (T := TX6) (N := 3) hx hb hts hin6 tyX6 tyX6_ok nmX6 hown hK hP hD hS 0 rfl rfl 2 (by decide) hfl26 (fun _ h9 => h9) rfl (by decide +kernel) rfl rfl (Nat.le_of_ble_eq_true rfl) dX6_lead_48 (fun H locs hP hD hS => ?_)
  have hP : va_P (gD G) vwCl (wStpPt G h0 g0 bX bY bZ n2 ((U p2.toNatClampNeg) - (U p1.toNatClampNeg)) ((V p2.toNatClampNeg) - (V p1.toNatClampNeg)) ((T p2.toNatClampNeg) - (T p1.toNatClampNeg)) sz1 U V T) H := hP
  have hD : va_D A (wStpPt G h0 g0 bX bY bZ n2 ((U p2.toNatClampNeg) - (U p1.toNatClampNeg)) ((V p2.toNatClampNeg) - (V p1.toNatClampNeg)) ((T p2.toNatClampNeg) - (T p1.toNatClampNeg)) sz1 U V T) := hD
  exact W.vret hx hb hr (fun t ht hW => ⟨⟨((U p2.toNatClampNeg) - (U p1.toNatClampNeg), (V p2.toNatClampNeg) - (V p1.toNatClampNeg), (T p2.toNatClampNeg) - (T p1.toNatClampNeg)), rfl, so_e hF, qW_mk ht hP hK hW hD⟩, hS.F ht⟩) hS.2.2 dX6_lead_51
def fX6_square (x1 : Int32) (x2 : Int32) (x3 : Int32) (y1 : Int32) (y2 : Int32) (y3 : Int32) (z1 : Int32) (z2 : Int32) (z3 : Int32) : Option (Int32 × Int32 × Int32) :=
  (some ((y2 * z3) - (y3 * z2), (y3 * z1) - (y1 * z3), (y1 * z2) - (y2 * z1)))
abbrev rX6_square : Room := { frames := 0, cells := 0, slots := 0, locals := 0 }
set_option maxHeartbeats 40000000 in
set_option maxRecDepth 100000 in
theorem kX6_square (l : Launch) (G : GT) (h0 g0 i0 : Nat) (sz : Nat) (x1 : Int32) (x2 : Int32) (x3 : Int32) (y1 : Int32) (y2 : Int32) (y3 : Int32) (z1 : Int32) (z2 : Int32) (z3 : Int32) (res : Int32 × Int32 × Int32) (hF : fX6_square x1 x2 x3 y1 y2 y3 z1 z2 z3 = some res) : Met l yX6_square wsX6_square rX6_square (va_Pc [.ref h0, .ref g0, .ref i0] (pW G sz (wStp3 G h0 g0 i0 x1 x2 x3 y1 y2 y3 z1 z2 z3))) (va_Qv (fun (u : Int32 × Int32 × Int32) => u = res) (fun u t => qW G (va_A (wStp3 G h0 g0 i0 x1 x2 x3 y1 y2 y3 z1 z2 z3) sz) (wStp3 G h0 g0 i0 u.1 u.2.1 u.2.2 y1 y2 y3 z1 z2 z3) t) (va_A (wStp3 G h0 g0 i0 x1 x2 x3 y1 y2 y3 z1 z2 z3) sz)) 0 0 (va_A (wStp3 G h0 g0 i0 x1 x2 x3 y1 y2 y3 z1 z2 z3) sz) := by
  refine Met.ofW (cc := cX6_square) (maxL := 3) (ret := none) (by decide) rfl ?_
  intro p e s m args below meth c s₁ B hml hv
  obtain ⟨rfl, hsz, hP, hK, hD0⟩ := hv
  have hx := B.exec
  have hb := B.bytes
  have hr := B.returns
  have hts := atoms_spec (ws := wsX6_square) B.pre
  have hown : s.vm.findClass RX6 = some m.cls := findClass_of_methodNamed B.named
  have hlocks := B.notSynchronized
  subst hsz
  have hD := hD0.self (sz := s.heap.size)
  generalize hAe : va_A (wStp3 G h0 g0 i0 x1 x2 x3 y1 y2 y3 z1 z2 z3) s.heap.size = A at hD ⊢
  have hA : ∀ q : Nat, s.heap.size ≤ q → A q := fun q h => by rw [← hAe]; exact Or.inr h
  have hS : va_S A s.heap s.heap [] := va_S.rf
  have hin6 : ∀ w ∈ u_ws RX6 TX6 3, w ∈ wsX6_square := by decide +kernel
  have hfl21 := hts (.fieldLink RX6 21 "SwellBodies$Step" "y" "I") (by decide +kernel)
  have hfl26 := hts (.fieldLink RX6 26 "SwellBodies$Step" "z" "I") (by decide +kernel)
  have hfl13 := hts (.fieldLink RX6 13 "SwellBodies$Step" "x" "I") (by decide +kernel)
  have hl := lv_entry ([.ref h0, .ref g0, .ref i0]) (n := 3) (Nat.le_of_ble_eq_true rfl)
  rw [lg_entry_eq]
  generalize (lg_sl ([.ref h0, .ref g0, .ref i0]) ++ List.replicate (3 - (lg_sl ([.ref h0, .ref g0, .ref i0])).length) Slot.unset).toArray = ls at hl ⊢
  have hl : lv_has ls 3 [(0, .ref h0), (1, .ref g0), (2, .ref i0)] := hl
  unfold fX6_square at hF
  refine lv_aload_n hx hb dX6_square_0 rfl (lv_at hl 0 rfl) ?_
  refine lv_aload_n hx hb dX6_square_1 rfl (lv_at hl 1 rfl) ?_
  refine va_get (ci := 6) (v := .int y2) (C := RX6) (T := TX6) (N := 3) hx hb hts hin6 hown hK hP 1 rfl rfl 1 (by decide) hfl21 (fun _ h9 => h9) rfl dX6_square_2 ?_
  refine lv_aload_n hx hb dX6_square_5 rfl (lv_at hl 2 rfl) ?_
  refine va_get (ci := 6) (v := .int z3) (C := RX6) (T := TX6) (N := 3) hx hb hts hin6 hown hK hP 2 rfl rfl 2 (by decide) hfl26 (fun _ h9 => h9) rfl dX6_square_6 ?_
  refine lv_imul hx hb dX6_square_9 ?_
  refine lv_aload_n hx hb dX6_square_10 rfl (lv_at hl 1 rfl) ?_
  refine va_get (ci := 6) (v := .int y3) (C := RX6) (T := TX6) (N := 3) hx hb hts hin6 hown hK hP 1 rfl rfl 2 (by decide) hfl26 (fun _ h9 => h9) rfl dX6_square_11 ?_
  refine lv_aload_n hx hb dX6_square_14 rfl (lv_at hl 2 rfl) ?_
  refine va_get (ci := 6) (v := .int z2) (C := RX6) (T := TX6) (N := 3) hx hb hts hin6 hown hK hP 2 rfl rfl 1 (by decide) hfl21 (fun _ h9 => h9) rfl dX6_square_15 ?_
  refine lv_imul hx hb dX6_square_18 ?_
  refine lv_isub hx hb dX6_square_19 ?_
  refine va_put (ci := 6) (v := .int ((y2 * z3) - (y3 * z2))) (ty := .int) (C := RX6) (T := TX6) (N := 3) hx hb hts hin6 tyX6 tyX6_ok nmX6 hown hK hP hD hS 0 rfl rfl 0 (by decide) hfl13 (fun _ h9 => h9) rfl (by decide +kernel) rfl rfl (Nat.le_of_ble_eq_true rfl) dX6_square_20 (fun H locs hP hD hS => ?_)
  have hP : va_P (gD G) vwCl (wStp3 G h0 g0 i0 ((y2 * z3) - (y3 * z2)) x2 x3 y1 y2 y3 z1 z2 z3) H := hP
  have hD : va_D A (wStp3 G h0 g0 i0 ((y2 * z3) - (y3 * z2)) x2 x3 y1 y2 y3 z1 z2 z3) := hD
  refine lv_aload_n hx hb dX6_square_23 rfl (lv_at hl 0 rfl) ?_
  refine lv_aload_n hx hb dX6_square_24 rfl (lv_at hl 1 rfl) ?_
  refine va_get (ci := 6) (v := .int y3) (C := RX6) (T := TX6) (N := 3) hx hb hts hin6 hown hK hP 1 rfl rfl 2 (by decide) hfl26 (fun _ h9 => h9) rfl dX6_square_25 ?_
  refine lv_aload_n hx hb dX6_square_28 rfl (lv_at hl 2 rfl) ?_
  refine va_get (ci := 6) (v := .int z1) (C := RX6) (T := TX6) (N := 3) hx hb hts hin6 hown hK hP 2 rfl rfl 0 (by decide) hfl13 (fun _ h9 => h9) rfl dX6_square_29 ?_
  refine lv_imul hx hb dX6_square_32 ?_
  refine lv_aload_n hx hb dX6_square_33 rfl (lv_at hl 1 rfl) ?_
  refine va_get (ci := 6) (v := .int y1) (C := RX6) (T := TX6) (N := 3) hx hb hts hin6 hown hK hP 1 rfl rfl 0 (by decide) hfl13 (fun _ h9 => h9) rfl dX6_square_34 ?_
  refine lv_aload_n hx hb dX6_square_37 rfl (lv_at hl 2 rfl) ?_
  refine va_get (ci := 6) (v := .int z3) (C := RX6) (T := TX6) (N := 3) hx hb hts hin6 hown hK hP 2 rfl rfl 2 (by decide) hfl26 (fun _ h9 => h9) rfl dX6_square_38 ?_
  refine lv_imul hx hb dX6_square_41 ?_
  refine lv_isub hx hb dX6_square_42 ?_
  refine va_put (ci := 6) (v := .int ((y3 * z1) - (y1 * z3))) (ty := .int) (C := RX6) (T := TX6) (N := 3) hx hb hts hin6 tyX6 tyX6_ok nmX6 hown hK hP hD hS 0 rfl rfl 1 (by decide) hfl21 (fun _ h9 => h9) rfl (by decide +kernel) rfl rfl (Nat.le_of_ble_eq_true rfl) dX6_square_43 (fun H locs hP hD hS => ?_)
  have hP : va_P (gD G) vwCl (wStp3 G h0 g0 i0 ((y2 * z3) - (y3 * z2)) ((y3 * z1) - (y1 * z3)) x3 y1 y2 y3 z1 z2 z3) H := hP
  have hD : va_D A (wStp3 G h0 g0 i0 ((y2 * z3) - (y3 * z2)) ((y3 * z1) - (y1 * z3)) x3 y1 y2 y3 z1 z2 z3) := hD
  refine lv_aload_n hx hb dX6_square_46 rfl (lv_at hl 0 rfl) ?_
  refine lv_aload_n hx hb dX6_square_47 rfl (lv_at hl 1 rfl) ?_
  refine va_get (ci := 6) (v := .int y1) (C := RX6) (T := TX6) (N := 3) hx hb hts hin6 hown hK hP 1 rfl rfl 0 (by decide) hfl13 (fun _ h9 => h9) rfl dX6_square_48 ?_
  refine lv_aload_n hx hb dX6_square_51 rfl (lv_at hl 2 rfl) ?_
  refine va_get (ci := 6) (v := .int z2) (C := RX6) (T := TX6) (N := 3) hx hb hts hin6 hown hK hP 2 rfl rfl 1 (by decide) hfl21 (fun _ h9 => h9) rfl dX6_square_52 ?_
  refine lv_imul hx hb dX6_square_55 ?_
  refine lv_aload_n hx hb dX6_square_56 rfl (lv_at hl 1 rfl) ?_
  refine va_get (ci := 6) (v := .int y2) (C := RX6) (T := TX6) (N := 3) hx hb hts hin6 hown hK hP 1 rfl rfl 1 (by decide) hfl21 (fun _ h9 => h9) rfl dX6_square_57 ?_
  refine lv_aload_n hx hb dX6_square_60 rfl (lv_at hl 2 rfl) ?_
  refine va_get (ci := 6) (v := .int z1) (C := RX6) (T := TX6) (N := 3) hx hb hts hin6 hown hK hP 2 rfl rfl 0 (by decide) hfl13 (fun _ h9 => h9) rfl dX6_square_61 ?_
  refine lv_imul hx hb dX6_square_64 ?_
  refine lv_isub hx hb dX6_square_65 ?_
  refine va_put (ci := 6) (v := .int ((y1 * z2) - (y2 * z1))) (ty := .int) (C := RX6) (T := TX6) (N := 3) hx hb hts hin6 tyX6 tyX6_ok nmX6 hown hK hP hD hS 0 rfl rfl 2 (by decide) hfl26 (fun _ h9 => h9) rfl (by decide +kernel) rfl rfl (Nat.le_of_ble_eq_true rfl) dX6_square_66 (fun H locs hP hD hS => ?_)
  have hP : va_P (gD G) vwCl (wStp3 G h0 g0 i0 ((y2 * z3) - (y3 * z2)) ((y3 * z1) - (y1 * z3)) ((y1 * z2) - (y2 * z1)) y1 y2 y3 z1 z2 z3) H := hP
  have hD : va_D A (wStp3 G h0 g0 i0 ((y2 * z3) - (y3 * z2)) ((y3 * z1) - (y1 * z3)) ((y1 * z2) - (y2 * z1)) y1 y2 y3 z1 z2 z3) := hD
  exact W.vret hx hb hr (fun t ht hW => ⟨⟨((y2 * z3) - (y3 * z2), (y3 * z1) - (y1 * z3), (y1 * z2) - (y2 * z1)), rfl, so_e hF, qW_mk ht hP hK hW hD⟩, hS.F ht⟩) hS.2.2 dX6_square_69
def fX6_isNought (x1 : Int32) (x2 : Int32) (x3 : Int32) : Option (Int32) :=
  (if x1 = 0 then (if x2 = 0 then (if x3 = 0 then (some 1) else (some 0)) else (some 0)) else (some 0))
abbrev rX6_isNought : Room := { frames := 0, cells := 0, slots := 0, locals := 0 }
set_option maxHeartbeats 40000000 in
set_option maxRecDepth 100000 in
theorem kX6_isNought (l : Launch) (G : GT) (h0 : Nat) (x1 : Int32) (x2 : Int32) (x3 : Int32) (res : Int32) (hF : fX6_isNought x1 x2 x3 = some res) : Met l yX6_isNought wsX6_isNought rX6_isNought (va_Pc [.ref h0] (pR G (wStp G h0 x1 x2 x3))) (vp_Si (fun r => r = res ∧ (r = 0 ∨ r = 1))) 0 0 (fun _ => False) := by
  refine Met.ofW (cc := cX6_isNought) (maxL := 1) (ret := (some .boolean)) (by decide) rfl ?_
  intro p e s m args below meth c s₁ B hml hv
  obtain ⟨rfl, hP, hK⟩ := hv
  have hx := B.exec
  have hb := B.bytes
  have hr := B.returns
  have hts := atoms_spec (ws := wsX6_isNought) B.pre
  have hown : s.vm.findClass RX6 = some m.cls := findClass_of_methodNamed B.named
  have hlocks := B.notSynchronized
  have hin6 : ∀ w ∈ u_ws RX6 TX6 3, w ∈ wsX6_isNought := by decide +kernel
  have hfl13 := hts (.fieldLink RX6 13 "SwellBodies$Step" "x" "I") (by decide +kernel)
  have hfl21 := hts (.fieldLink RX6 21 "SwellBodies$Step" "y" "I") (by decide +kernel)
  have hfl26 := hts (.fieldLink RX6 26 "SwellBodies$Step" "z" "I") (by decide +kernel)
  have hl := lv_entry ([.ref h0]) (n := 1) (Nat.le_of_ble_eq_true rfl)
  rw [lg_entry_eq]
  generalize (lg_sl ([.ref h0]) ++ List.replicate (1 - (lg_sl ([.ref h0])).length) Slot.unset).toArray = ls at hl ⊢
  have hl : lv_has ls 1 [(0, .ref h0)] := hl
  unfold fX6_isNought at hF
  refine lv_aload_n hx hb dX6_isNought_0 rfl (lv_at hl 0 rfl) ?_
  refine va_get (ci := 6) (v := .int x1) (C := RX6) (T := TX6) (N := 3) hx hb hts hin6 hown hK hP 0 rfl rfl 0 (by decide) hfl13 (fun _ h9 => h9) rfl dX6_isNought_1 ?_
  refine lv_if_ne (tgt := 25) hx hb dX6_isNought_4 (by decide) (fun c_1 => ?_) (fun c_1 => ?_)
  · replace hF := it_n c_1 hF
    refine lv_iconst (v := 0) hx hb dX6_isNought_25 (by decide) ?_
    exact W.zret (v := 0) hx hb hr (by first | rfl | (rcases hF with h | h <;> rw [h] <;> rfl)) (fun t ht hW => ⟨0, rfl, ⟨so_e hF, (by first | exact Or.inl rfl | exact Or.inr rfl | assumption)⟩, ht⟩) (fun q h => absurd h List.not_mem_nil) dX6_isNought_26
  · replace hF := it_p c_1 hF
    refine lv_aload_n hx hb dX6_isNought_7 rfl (lv_at hl 0 rfl) ?_
    refine va_get (ci := 6) (v := .int x2) (C := RX6) (T := TX6) (N := 3) hx hb hts hin6 hown hK hP 0 rfl rfl 1 (by decide) hfl21 (fun _ h9 => h9) rfl dX6_isNought_8 ?_
    refine lv_if_ne (tgt := 25) hx hb dX6_isNought_11 (by decide) (fun c_2 => ?_) (fun c_2 => ?_)
    · replace hF := it_n c_2 hF
      refine lv_iconst (v := 0) hx hb dX6_isNought_25 (by decide) ?_
      exact W.zret (v := 0) hx hb hr (by first | rfl | (rcases hF with h | h <;> rw [h] <;> rfl)) (fun t ht hW => ⟨0, rfl, ⟨so_e hF, (by first | exact Or.inl rfl | exact Or.inr rfl | assumption)⟩, ht⟩) (fun q h => absurd h List.not_mem_nil) dX6_isNought_26
    · replace hF := it_p c_2 hF
      refine lv_aload_n hx hb dX6_isNought_14 rfl (lv_at hl 0 rfl) ?_
      refine va_get (ci := 6) (v := .int x3) (C := RX6) (T := TX6) (N := 3) hx hb hts hin6 hown hK hP 0 rfl rfl 2 (by decide) hfl26 (fun _ h9 => h9) rfl dX6_isNought_15 ?_
      refine lv_if_ne (tgt := 25) hx hb dX6_isNought_18 (by decide) (fun c_3 => ?_) (fun c_3 => ?_)
      · replace hF := it_n c_3 hF
        refine lv_iconst (v := 0) hx hb dX6_isNought_25 (by decide) ?_
        exact W.zret (v := 0) hx hb hr (by first | rfl | (rcases hF with h | h <;> rw [h] <;> rfl)) (fun t ht hW => ⟨0, rfl, ⟨so_e hF, (by first | exact Or.inl rfl | exact Or.inr rfl | assumption)⟩, ht⟩) (fun q h => absurd h List.not_mem_nil) dX6_isNought_26
      · replace hF := it_p c_3 hF
        refine lv_iconst (v := 1) hx hb dX6_isNought_21 (by decide) ?_
        refine lv_goto (tgt := 26) hx hb dX6_isNought_22 (by decide) ?_
        exact W.zret (v := 1) hx hb hr (by first | rfl | (rcases hF with h | h <;> rw [h] <;> rfl)) (fun t ht hW => ⟨1, rfl, ⟨so_e hF, (by first | exact Or.inl rfl | exact Or.inr rfl | assumption)⟩, ht⟩) (fun q h => absurd h List.not_mem_nil) dX6_isNought_26
def fX6_times (x1 : Int32) (x2 : Int32) (x3 : Int32) (y1 : Int32) (y2 : Int32) (y3 : Int32) : Option (Int32) :=
  (some (((x1 * y1) + (x2 * y2)) + (x3 * y3)))
abbrev rX6_times : Room := { frames := 0, cells := 0, slots := 0, locals := 0 }
set_option maxHeartbeats 40000000 in
set_option maxRecDepth 100000 in
theorem kX6_times (l : Launch) (G : GT) (h0 g0 : Nat) (x1 : Int32) (x2 : Int32) (x3 : Int32) (y1 : Int32) (y2 : Int32) (y3 : Int32) (res : Int32) (hF : fX6_times x1 x2 x3 y1 y2 y3 = some res) : Met l yX6_times wsX6_times rX6_times (va_Pc [.ref h0, .ref g0] (pR G (wStp2 G h0 g0 x1 x2 x3 y1 y2 y3))) (vp_Si (fun r => r = res)) 0 0 (fun _ => False) := by
  refine Met.ofW (cc := cX6_times) (maxL := 2) (ret := (some .int)) (by decide) rfl ?_
  intro p e s m args below meth c s₁ B hml hv
  obtain ⟨rfl, hP, hK⟩ := hv
  have hx := B.exec
  have hb := B.bytes
  have hr := B.returns
  have hts := atoms_spec (ws := wsX6_times) B.pre
  have hown : s.vm.findClass RX6 = some m.cls := findClass_of_methodNamed B.named
  have hlocks := B.notSynchronized
  have hin6 : ∀ w ∈ u_ws RX6 TX6 3, w ∈ wsX6_times := by decide +kernel
  have hfl13 := hts (.fieldLink RX6 13 "SwellBodies$Step" "x" "I") (by decide +kernel)
  have hfl21 := hts (.fieldLink RX6 21 "SwellBodies$Step" "y" "I") (by decide +kernel)
  have hfl26 := hts (.fieldLink RX6 26 "SwellBodies$Step" "z" "I") (by decide +kernel)
  have hl := lv_entry ([.ref h0, .ref g0]) (n := 2) (Nat.le_of_ble_eq_true rfl)
  rw [lg_entry_eq]
  generalize (lg_sl ([.ref h0, .ref g0]) ++ List.replicate (2 - (lg_sl ([.ref h0, .ref g0])).length) Slot.unset).toArray = ls at hl ⊢
  have hl : lv_has ls 2 [(0, .ref h0), (1, .ref g0)] := hl
  unfold fX6_times at hF
  refine lv_aload_n hx hb dX6_times_0 rfl (lv_at hl 0 rfl) ?_
  refine va_get (ci := 6) (v := .int x1) (C := RX6) (T := TX6) (N := 3) hx hb hts hin6 hown hK hP 0 rfl rfl 0 (by decide) hfl13 (fun _ h9 => h9) rfl dX6_times_1 ?_
  refine lv_aload_n hx hb dX6_times_4 rfl (lv_at hl 1 rfl) ?_
  refine va_get (ci := 6) (v := .int y1) (C := RX6) (T := TX6) (N := 3) hx hb hts hin6 hown hK hP 1 rfl rfl 0 (by decide) hfl13 (fun _ h9 => h9) rfl dX6_times_5 ?_
  refine lv_imul hx hb dX6_times_8 ?_
  refine lv_aload_n hx hb dX6_times_9 rfl (lv_at hl 0 rfl) ?_
  refine va_get (ci := 6) (v := .int x2) (C := RX6) (T := TX6) (N := 3) hx hb hts hin6 hown hK hP 0 rfl rfl 1 (by decide) hfl21 (fun _ h9 => h9) rfl dX6_times_10 ?_
  refine lv_aload_n hx hb dX6_times_13 rfl (lv_at hl 1 rfl) ?_
  refine va_get (ci := 6) (v := .int y2) (C := RX6) (T := TX6) (N := 3) hx hb hts hin6 hown hK hP 1 rfl rfl 1 (by decide) hfl21 (fun _ h9 => h9) rfl dX6_times_14 ?_
  refine lv_imul hx hb dX6_times_17 ?_
  refine lv_iadd hx hb dX6_times_18 ?_
  refine lv_aload_n hx hb dX6_times_19 rfl (lv_at hl 0 rfl) ?_
  refine va_get (ci := 6) (v := .int x3) (C := RX6) (T := TX6) (N := 3) hx hb hts hin6 hown hK hP 0 rfl rfl 2 (by decide) hfl26 (fun _ h9 => h9) rfl dX6_times_20 ?_
  refine lv_aload_n hx hb dX6_times_23 rfl (lv_at hl 1 rfl) ?_
  refine va_get (ci := 6) (v := .int y3) (C := RX6) (T := TX6) (N := 3) hx hb hts hin6 hown hK hP 1 rfl rfl 2 (by decide) hfl26 (fun _ h9 => h9) rfl dX6_times_24 ?_
  refine lv_imul hx hb dX6_times_27 ?_
  refine lv_iadd hx hb dX6_times_28 ?_
  exact W.iret (v := ((x1 * y1) + (x2 * y2)) + (x3 * y3)) hx hb hr  (fun t ht hW => ⟨((x1 * y1) + (x2 * y2)) + (x3 * y3), rfl, (so_e hF), ht⟩) (fun q h => absurd h List.not_mem_nil) dX6_times_29
def fX6_at (n2 : Nat) (x1 : Int32) (x2 : Int32) (x3 : Int32) (U : Nat → Int32) (V : Nat → Int32) (T : Nat → Int32) (p1 : Int32) : Option (Int32) :=
  (gd_in p1 n2 (some (((x1 * (U p1.toNatClampNeg)) + (x2 * (V p1.toNatClampNeg))) + (x3 * (T p1.toNatClampNeg)))))
abbrev rX6_at : Room := { frames := 0, cells := 0, slots := 0, locals := 0 }
set_option maxHeartbeats 40000000 in
set_option maxRecDepth 100000 in
theorem kX6_at (l : Launch) (G : GT) (h0 g0 bX bY bZ : Nat) (n2 : Nat) (x1 : Int32) (x2 : Int32) (x3 : Int32) (sz1 : Int32) (U : Nat → Int32) (V : Nat → Int32) (T : Nat → Int32) (p1 : Int32) (res : Int32) (hF : fX6_at n2 x1 x2 x3 U V T p1 = some res) : Met l yX6_at wsX6_at rX6_at (va_Pc [.ref h0, .ref g0, .int p1] (pR G (wStpPt G h0 g0 bX bY bZ n2 x1 x2 x3 sz1 U V T))) (vp_Si (fun r => r = res)) 0 0 (fun _ => False) := by
  refine Met.ofW (cc := cX6_at) (maxL := 3) (ret := (some .int)) (by decide) rfl ?_
  intro p e s m args below meth c s₁ B hml hv
  obtain ⟨rfl, hP, hK⟩ := hv
  have hx := B.exec
  have hb := B.bytes
  have hr := B.returns
  have hts := atoms_spec (ws := wsX6_at) B.pre
  have hown : s.vm.findClass RX6 = some m.cls := findClass_of_methodNamed B.named
  have hlocks := B.notSynchronized
  have hin6 : ∀ w ∈ u_ws RX6 TX6 3, w ∈ wsX6_at := by decide +kernel
  have hfl13 := hts (.fieldLink RX6 13 "SwellBodies$Step" "x" "I") (by decide +kernel)
  have hin4 : ∀ w ∈ u_ws RX4 TX4 4, w ∈ wsX6_at := by decide +kernel
  have hfl7 := hts (.fieldLink RX6 7 "SwellBodies$Points" "x" "[I") (by decide +kernel)
  have hfl21 := hts (.fieldLink RX6 21 "SwellBodies$Step" "y" "I") (by decide +kernel)
  have hfl18 := hts (.fieldLink RX6 18 "SwellBodies$Points" "y" "[I") (by decide +kernel)
  have hfl26 := hts (.fieldLink RX6 26 "SwellBodies$Step" "z" "I") (by decide +kernel)
  have hfl23 := hts (.fieldLink RX6 23 "SwellBodies$Points" "z" "[I") (by decide +kernel)
  have hl := lv_entry ([.ref h0, .ref g0, .int p1]) (n := 3) (Nat.le_of_ble_eq_true rfl)
  rw [lg_entry_eq]
  generalize (lg_sl ([.ref h0, .ref g0, .int p1]) ++ List.replicate (3 - (lg_sl ([.ref h0, .ref g0, .int p1])).length) Slot.unset).toArray = ls at hl ⊢
  have hl : lv_has ls 3 [(0, .ref h0), (1, .ref g0), (2, .int p1)] := hl
  unfold fX6_at at hF
  refine lv_aload_n hx hb dX6_at_0 rfl (lv_at hl 0 rfl) ?_
  refine va_get (ci := 6) (v := .int x1) (C := RX6) (T := TX6) (N := 3) hx hb hts hin6 hown hK hP 0 rfl rfl 0 (by decide) hfl13 (fun _ h9 => h9) rfl dX6_at_1 ?_
  refine lv_aload_n hx hb dX6_at_4 rfl (lv_at hl 1 rfl) ?_
  refine va_get (ci := 4) (v := .ref bX) (C := RX4) (T := TX4) (N := 4) hx hb hts hin4 hown hK hP 1 rfl rfl 0 (by decide) hfl7 (fun _ h9 => h9) rfl dX6_at_5 ?_
  refine lv_iload_n hx hb dX6_at_8 rfl (lv_at hl 2 rfl) ?_
  obtain ⟨hi_1, hF⟩ := gd_in_s hF
  refine va_iald hx hb hK hP 2 0 rfl rfl hi_1 dX6_at_9 ?_
  refine lv_imul hx hb dX6_at_10 ?_
  refine lv_aload_n hx hb dX6_at_11 rfl (lv_at hl 0 rfl) ?_
  refine va_get (ci := 6) (v := .int x2) (C := RX6) (T := TX6) (N := 3) hx hb hts hin6 hown hK hP 0 rfl rfl 1 (by decide) hfl21 (fun _ h9 => h9) rfl dX6_at_12 ?_
  refine lv_aload_n hx hb dX6_at_15 rfl (lv_at hl 1 rfl) ?_
  refine va_get (ci := 4) (v := .ref bY) (C := RX4) (T := TX4) (N := 4) hx hb hts hin4 hown hK hP 1 rfl rfl 1 (by decide) hfl18 (fun _ h9 => h9) rfl dX6_at_16 ?_
  refine lv_iload_n hx hb dX6_at_19 rfl (lv_at hl 2 rfl) ?_
  refine va_iald hx hb hK hP 3 0 rfl rfl hi_1 dX6_at_20 ?_
  refine lv_imul hx hb dX6_at_21 ?_
  refine lv_iadd hx hb dX6_at_22 ?_
  refine lv_aload_n hx hb dX6_at_23 rfl (lv_at hl 0 rfl) ?_
  refine va_get (ci := 6) (v := .int x3) (C := RX6) (T := TX6) (N := 3) hx hb hts hin6 hown hK hP 0 rfl rfl 2 (by decide) hfl26 (fun _ h9 => h9) rfl dX6_at_24 ?_
  refine lv_aload_n hx hb dX6_at_27 rfl (lv_at hl 1 rfl) ?_
  refine va_get (ci := 4) (v := .ref bZ) (C := RX4) (T := TX4) (N := 4) hx hb hts hin4 hown hK hP 1 rfl rfl 2 (by decide) hfl23 (fun _ h9 => h9) rfl dX6_at_28 ?_
  refine lv_iload_n hx hb dX6_at_31 rfl (lv_at hl 2 rfl) ?_
  refine va_iald hx hb hK hP 4 0 rfl rfl hi_1 dX6_at_32 ?_
  refine lv_imul hx hb dX6_at_33 ?_
  refine lv_iadd hx hb dX6_at_34 ?_
  exact W.iret (v := ((x1 * (U p1.toNatClampNeg)) + (x2 * (V p1.toNatClampNeg))) + (x3 * (T p1.toNatClampNeg))) hx hb hr  (fun t ht hW => ⟨((x1 * (U p1.toNatClampNeg)) + (x2 * (V p1.toNatClampNeg))) + (x3 * (T p1.toNatClampNeg)), rfl, (so_e hF), ht⟩) (fun q h => absurd h List.not_mem_nil) dX6_at_35
def fX6_flip (x1 : Int32) (x2 : Int32) (x3 : Int32) : Option (Int32 × Int32 × Int32) :=
  (some (-x1, -x2, -x3))
abbrev rX6_flip : Room := { frames := 0, cells := 0, slots := 0, locals := 0 }
set_option maxHeartbeats 40000000 in
set_option maxRecDepth 100000 in
theorem kX6_flip (l : Launch) (G : GT) (h0 : Nat) (sz : Nat) (x1 : Int32) (x2 : Int32) (x3 : Int32) (res : Int32 × Int32 × Int32) (hF : fX6_flip x1 x2 x3 = some res) : Met l yX6_flip wsX6_flip rX6_flip (va_Pc [.ref h0] (pW G sz (wStp G h0 x1 x2 x3))) (va_Qv (fun (u : Int32 × Int32 × Int32) => u = res) (fun u t => qW G (va_A (wStp G h0 x1 x2 x3) sz) (wStp G h0 u.1 u.2.1 u.2.2) t) (va_A (wStp G h0 x1 x2 x3) sz)) 0 0 (va_A (wStp G h0 x1 x2 x3) sz) := by
  refine Met.ofW (cc := cX6_flip) (maxL := 1) (ret := none) (by decide) rfl ?_
  intro p e s m args below meth c s₁ B hml hv
  obtain ⟨rfl, hsz, hP, hK, hD0⟩ := hv
  have hx := B.exec
  have hb := B.bytes
  have hr := B.returns
  have hts := atoms_spec (ws := wsX6_flip) B.pre
  have hown : s.vm.findClass RX6 = some m.cls := findClass_of_methodNamed B.named
  have hlocks := B.notSynchronized
  subst hsz
  have hD := hD0.self (sz := s.heap.size)
  generalize hAe : va_A (wStp G h0 x1 x2 x3) s.heap.size = A at hD ⊢
  have hA : ∀ q : Nat, s.heap.size ≤ q → A q := fun q h => by rw [← hAe]; exact Or.inr h
  have hS : va_S A s.heap s.heap [] := va_S.rf
  have hin6 : ∀ w ∈ u_ws RX6 TX6 3, w ∈ wsX6_flip := by decide +kernel
  have hfl13 := hts (.fieldLink RX6 13 "SwellBodies$Step" "x" "I") (by decide +kernel)
  have hfl21 := hts (.fieldLink RX6 21 "SwellBodies$Step" "y" "I") (by decide +kernel)
  have hfl26 := hts (.fieldLink RX6 26 "SwellBodies$Step" "z" "I") (by decide +kernel)
  have hl := lv_entry ([.ref h0]) (n := 1) (Nat.le_of_ble_eq_true rfl)
  rw [lg_entry_eq]
  generalize (lg_sl ([.ref h0]) ++ List.replicate (1 - (lg_sl ([.ref h0])).length) Slot.unset).toArray = ls at hl ⊢
  have hl : lv_has ls 1 [(0, .ref h0)] := hl
  unfold fX6_flip at hF
  refine lv_aload_n hx hb dX6_flip_0 rfl (lv_at hl 0 rfl) ?_
  refine lv_aload_n hx hb dX6_flip_1 rfl (lv_at hl 0 rfl) ?_
  refine va_get (ci := 6) (v := .int x1) (C := RX6) (T := TX6) (N := 3) hx hb hts hin6 hown hK hP 0 rfl rfl 0 (by decide) hfl13 (fun _ h9 => h9) rfl dX6_flip_2 ?_
  refine lv_ineg hx hb dX6_flip_5 ?_
  refine va_put (ci := 6) (v := .int (-x1)) (ty := .int) (C := RX6) (T := TX6) (N := 3) hx hb hts hin6 tyX6 tyX6_ok nmX6 hown hK hP hD hS 0 rfl rfl 0 (by decide) hfl13 (fun _ h9 => h9) rfl (by decide +kernel) rfl rfl (Nat.le_of_ble_eq_true rfl) dX6_flip_6 (fun H locs hP hD hS => ?_)
  have hP : va_P (gD G) vwCl (wStp G h0 (-x1) x2 x3) H := hP
  have hD : va_D A (wStp G h0 (-x1) x2 x3) := hD
  refine lv_aload_n hx hb dX6_flip_9 rfl (lv_at hl 0 rfl) ?_
  refine lv_aload_n hx hb dX6_flip_10 rfl (lv_at hl 0 rfl) ?_
  refine va_get (ci := 6) (v := .int x2) (C := RX6) (T := TX6) (N := 3) hx hb hts hin6 hown hK hP 0 rfl rfl 1 (by decide) hfl21 (fun _ h9 => h9) rfl dX6_flip_11 ?_
  refine lv_ineg hx hb dX6_flip_14 ?_
  refine va_put (ci := 6) (v := .int (-x2)) (ty := .int) (C := RX6) (T := TX6) (N := 3) hx hb hts hin6 tyX6 tyX6_ok nmX6 hown hK hP hD hS 0 rfl rfl 1 (by decide) hfl21 (fun _ h9 => h9) rfl (by decide +kernel) rfl rfl (Nat.le_of_ble_eq_true rfl) dX6_flip_15 (fun H locs hP hD hS => ?_)
  have hP : va_P (gD G) vwCl (wStp G h0 (-x1) (-x2) x3) H := hP
  have hD : va_D A (wStp G h0 (-x1) (-x2) x3) := hD
  refine lv_aload_n hx hb dX6_flip_18 rfl (lv_at hl 0 rfl) ?_
  refine lv_aload_n hx hb dX6_flip_19 rfl (lv_at hl 0 rfl) ?_
  refine va_get (ci := 6) (v := .int x3) (C := RX6) (T := TX6) (N := 3) hx hb hts hin6 hown hK hP 0 rfl rfl 2 (by decide) hfl26 (fun _ h9 => h9) rfl dX6_flip_20 ?_
  refine lv_ineg hx hb dX6_flip_23 ?_
  refine va_put (ci := 6) (v := .int (-x3)) (ty := .int) (C := RX6) (T := TX6) (N := 3) hx hb hts hin6 tyX6 tyX6_ok nmX6 hown hK hP hD hS 0 rfl rfl 2 (by decide) hfl26 (fun _ h9 => h9) rfl (by decide +kernel) rfl rfl (Nat.le_of_ble_eq_true rfl) dX6_flip_24 (fun H locs hP hD hS => ?_)
  have hP : va_P (gD G) vwCl (wStp G h0 (-x1) (-x2) (-x3)) H := hP
  have hD : va_D A (wStp G h0 (-x1) (-x2) (-x3)) := hD
  exact W.vret hx hb hr (fun t ht hW => ⟨⟨(-x1, -x2, -x3), rfl, so_e hF, qW_mk ht hP hK hW hD⟩, hS.F ht⟩) hS.2.2 dX6_flip_27
def LX6_commonDivisor_7   : Nat → Int32 → Int32 → Int32 → Option (Int32)
  | 0, _, _, _ => none
  | k + 1, a2, a3, a4 =>
  (if 100 ≤ a4 then (some a2) else (if a3 = 0 then (some a2) else (gd_nz a3 (LX6_commonDivisor_7 k a3 (a2 - a2 / a3 * a3) (a4 + 1)))))
def fX6_commonDivisor (p1 : Int32) (p2 : Int32) : Option (Int32) :=
  (LX6_commonDivisor_7 FU p1 p2 0)
abbrev rX6_commonDivisor : Room := { frames := 0, cells := 0, slots := 0, locals := 0 }
set_option maxHeartbeats 40000000 in
set_option maxRecDepth 100000 in
theorem kX6_commonDivisor (l : Launch) (G : GT) (p1 : Int32) (p2 : Int32) (res : Int32) (hF : fX6_commonDivisor p1 p2 = some res) : Met l yX6_commonDivisor wsX6_commonDivisor rX6_commonDivisor (va_Pc [.int p1, .int p2] (pR G ([] : va_W))) (vp_Si (fun r => r = res)) 0 0 (fun _ => False) := by
  refine Met.ofW (cc := cX6_commonDivisor) (maxL := 6) (ret := (some .int)) (by decide) rfl ?_
  intro p e s m args below meth c s₁ B hml hv
  obtain ⟨rfl, hP, hK⟩ := hv
  have hx := B.exec
  have hb := B.bytes
  have hr := B.returns
  have hts := atoms_spec (ws := wsX6_commonDivisor) B.pre
  have hown : s.vm.findClass RX6 = some m.cls := findClass_of_methodNamed B.named
  have hlocks := B.notSynchronized
  have hl := lv_entry ([.int p1, .int p2]) (n := 6) (Nat.le_of_ble_eq_true rfl)
  rw [lg_entry_eq]
  generalize (lg_sl ([.int p1, .int p2]) ++ List.replicate (6 - (lg_sl ([.int p1, .int p2])).length) Slot.unset).toArray = ls at hl ⊢
  have hl : lv_has ls 6 [(0, .int p1), (1, .int p2)] := hl
  have hL7 : ∀ (k : Nat), ∀ (a2 : Int32) (a3 : Int32) (a4 : Int32) (ls : Array Slot), LX6_commonDivisor_7 k a2 a3 a4 = some res → lv_has ls 6 [(2, .int a2), (3, .int a3), (4, .int a4)] → W p l e (headSpec wsX6_commonDivisor rX6_commonDivisor).room s m ([.int p1, .int p2] : List Value).toArray below meth c s.heap [] 0 0 (MQ below (vp_Si (fun r => r = res)) ([.int p1, .int p2] : List Value).toArray s 0 0 (fun _ => False)) (F0 m 7 ls []) := by
    intro k
    induction k with
    | zero =>
      intro a2 a3 a4 ls hF hl
      rw [LX6_commonDivisor_7] at hF
      cases hF
    | succ k ih =>
      intro a2 a3 a4 ls hF hl
      rw [LX6_commonDivisor_7] at hF
      refine lv_iload hx hb dX6_commonDivisor_7 (lv_at hl 2 rfl) ?_
      refine lv_bipush (v := 100) hx hb dX6_commonDivisor_9 (by decide) ?_
      refine lv_icmp_ge (tgt := 34) hx hb dX6_commonDivisor_11 (by decide) (fun c_1 => ?_) (fun c_1 => ?_)
      · replace hF := it_p c_1 hF
        refine lv_iload_n hx hb dX6_commonDivisor_34 rfl (lv_at hl 0 rfl) ?_
        exact W.iret (v := a2) hx hb hr  (fun t ht hW => ⟨a2, rfl, (so_e hF), ht⟩) (fun q h => absurd h List.not_mem_nil) dX6_commonDivisor_35
      · replace hF := it_n c_1 hF
        refine lv_iload_n hx hb dX6_commonDivisor_14 rfl (lv_at hl 1 rfl) ?_
        refine lv_if_eq (tgt := 34) hx hb dX6_commonDivisor_15 (by decide) (fun c_2 => ?_) (fun c_2 => ?_)
        · replace hF := it_p c_2 hF
          refine lv_iload_n hx hb dX6_commonDivisor_34 rfl (lv_at hl 0 rfl) ?_
          exact W.iret (v := a2) hx hb hr  (fun t ht hW => ⟨a2, rfl, (so_e hF), ht⟩) (fun q h => absurd h List.not_mem_nil) dX6_commonDivisor_35
        · replace hF := it_n c_2 hF
          refine lv_iload_n hx hb dX6_commonDivisor_18 rfl (lv_at hl 0 rfl) ?_
          refine lv_iload_n hx hb dX6_commonDivisor_19 rfl (lv_at hl 1 rfl) ?_
          obtain ⟨hz_3, hF⟩ := gd_nz_s hF
          refine lv_irem hx hb dX6_commonDivisor_20 hz_3 ?_
          refine lv_istore (lv' := [(5, .int (a2 - a2 / a3 * a3)), (2, .int a2), (3, .int a3), (4, .int a4)]) hx hb dX6_commonDivisor_21 hl (by decide) rfl (fun ls hl => ?_)
          refine lv_iload_n hx hb dX6_commonDivisor_23 rfl (lv_at hl 2 rfl) ?_
          refine lv_istore_n (lv' := [(2, .int a3), (5, .int (a2 - a2 / a3 * a3)), (3, .int a3), (4, .int a4)]) hx hb dX6_commonDivisor_24 rfl hl (by decide) rfl (fun ls hl => ?_)
          refine lv_iload hx hb dX6_commonDivisor_25 (lv_at hl 1 rfl) ?_
          refine lv_istore_n (lv' := [(3, .int (a2 - a2 / a3 * a3)), (2, .int a3), (5, .int (a2 - a2 / a3 * a3)), (4, .int a4)]) hx hb dX6_commonDivisor_27 rfl hl (by decide) rfl (fun ls hl => ?_)
          refine lv_iinc (v := a4 + 1) (lv' := [(4, .int (a4 + 1)), (3, .int (a2 - a2 / a3 * a3)), (2, .int a3), (5, .int (a2 - a2 / a3 * a3))]) hx hb dX6_commonDivisor_28 hl (k := 3) rfl rfl (by decide) rfl (fun ls hl => ?_)
          refine lv_goto (tgt := 7) hx hb dX6_commonDivisor_31 (by decide) ?_
          exact ih a3 (a2 - a2 / a3 * a3) (a4 + 1) _ hF (lv_sub hl [2, 1, 0] rfl)
  unfold fX6_commonDivisor at hF
  refine lv_iload_n hx hb dX6_commonDivisor_0 rfl (lv_at hl 0 rfl) ?_
  refine lv_istore_n (lv' := [(2, .int p1), (0, .int p1), (1, .int p2)]) hx hb dX6_commonDivisor_1 rfl hl (by decide) rfl (fun ls hl => ?_)
  refine lv_iload_n hx hb dX6_commonDivisor_2 rfl (lv_at hl 2 rfl) ?_
  refine lv_istore_n (lv' := [(3, .int p2), (2, .int p1), (0, .int p1), (1, .int p2)]) hx hb dX6_commonDivisor_3 rfl hl (by decide) rfl (fun ls hl => ?_)
  refine lv_iconst (v := 0) hx hb dX6_commonDivisor_4 (by decide) ?_
  refine lv_istore (lv' := [(4, .int 0), (3, .int p2), (2, .int p1), (0, .int p1), (1, .int p2)]) hx hb dX6_commonDivisor_5 hl (by decide) rfl (fun ls hl => ?_)
  exact hL7 FU p1 p2 0 _ hF (lv_sub hl [2, 1, 0] rfl)
def fX6_shorten (x1 : Int32) (x2 : Int32) (x3 : Int32) : Option (Int32 × Int32 × Int32) :=
  (bd (fX6_commonDivisor (if 0 ≤ x1 then x1 else 0 - x1) (if 0 ≤ x2 then x2 else 0 - x2)) (fun v_1 => (bd (fX6_commonDivisor v_1 (if 0 ≤ x3 then x3 else 0 - x3)) (fun v_2 => (if v_2 ≤ 1 then (some (x1, x2, x3)) else (gd_nz v_2 (gd_nz v_2 (gd_nz v_2 (some (x1 / v_2, x2 / v_2, x3 / v_2))))))))))
abbrev rX6_shorten : Room := { frames := 1, cells := 0, slots := 0, locals := 25 }
set_option maxHeartbeats 40000000 in
set_option maxRecDepth 100000 in
theorem kX6_shorten (l : Launch) (G : GT) (h0 : Nat) (sz : Nat) (x1 : Int32) (x2 : Int32) (x3 : Int32) (res : Int32 × Int32 × Int32) (hF : fX6_shorten x1 x2 x3 = some res) : Met l yX6_shorten wsX6_shorten rX6_shorten (va_Pc [.ref h0] (pW G sz (wStp G h0 x1 x2 x3))) (va_Qv (fun (u : Int32 × Int32 × Int32) => u = res) (fun u t => qW G (va_A (wStp G h0 x1 x2 x3) sz) (wStp G h0 u.1 u.2.1 u.2.2) t) (va_A (wStp G h0 x1 x2 x3) sz)) 0 0 (va_A (wStp G h0 x1 x2 x3) sz) := by
  refine Met.ofW (cc := cX6_shorten) (maxL := 2) (ret := none) (by decide) rfl ?_
  intro p e s m args below meth c s₁ B hml hv
  obtain ⟨rfl, hsz, hP, hK, hD0⟩ := hv
  have hx := B.exec
  have hb := B.bytes
  have hr := B.returns
  have hts := atoms_spec (ws := wsX6_shorten) B.pre
  have hown : s.vm.findClass RX6 = some m.cls := findClass_of_methodNamed B.named
  have hlocks := B.notSynchronized
  subst hsz
  have hD := hD0.self (sz := s.heap.size)
  generalize hAe : va_A (wStp G h0 x1 x2 x3) s.heap.size = A at hD ⊢
  have hA : ∀ q : Nat, s.heap.size ≤ q → A q := fun q h => by rw [← hAe]; exact Or.inr h
  have hS : va_S A s.heap s.heap [] := va_S.rf
  have hin6 : ∀ w ∈ u_ws RX6 TX6 3, w ∈ wsX6_shorten := by decide +kernel
  have hfl13 := hts (.fieldLink RX6 13 "SwellBodies$Step" "x" "I") (by decide +kernel)
  have hm28 := hts (.methodLink RX6 28 Lib.Math.abs.name) (by decide +kernel)
  have hmsabs := hts (.static Lib.Math.abs.name) (by decide +kernel)
  have hmi := hts (.initialized "java/lang/Math") (by decide +kernel)
  have hmcabs := hts (.code Lib.Math.abs.name Lib.Math.abs.code 1 (some .int)) (by decide +kernel)
  have hfl21 := hts (.fieldLink RX6 21 "SwellBodies$Step" "y" "I") (by decide +kernel)
  have hfl26 := hts (.fieldLink RX6 26 "SwellBodies$Step" "z" "I") (by decide +kernel)
  have hl := lv_entry ([.ref h0]) (n := 2) (Nat.le_of_ble_eq_true rfl)
  rw [lg_entry_eq]
  generalize (lg_sl ([.ref h0]) ++ List.replicate (2 - (lg_sl ([.ref h0])).length) Slot.unset).toArray = ls at hl ⊢
  have hl : lv_has ls 2 [(0, .ref h0)] := hl
  unfold fX6_shorten at hF
  refine lv_aload_n hx hb dX6_shorten_0 rfl (lv_at hl 0 rfl) ?_
  refine va_get (ci := 6) (v := .int x1) (C := RX6) (T := TX6) (N := 3) hx hb hts hin6 hown hK hP 0 rfl rfl 0 (by decide) hfl13 (fun _ h9 => h9) rfl dX6_shorten_1 ?_
  refine va_mabs hx hb (by rw [hml]; exact hl.1.symm) hown hm28 hmsabs hmi hmcabs (Nat.le_of_ble_eq_true rfl) (Nat.le_of_ble_eq_true rfl) (Nat.le_of_ble_eq_true rfl) (Nat.le_of_ble_eq_true rfl) dX6_shorten_4 ?_
  refine lv_aload_n hx hb dX6_shorten_7 rfl (lv_at hl 0 rfl) ?_
  refine va_get (ci := 6) (v := .int x2) (C := RX6) (T := TX6) (N := 3) hx hb hts hin6 hown hK hP 0 rfl rfl 1 (by decide) hfl21 (fun _ h9 => h9) rfl dX6_shorten_8 ?_
  refine va_mabs hx hb (by rw [hml]; exact hl.1.symm) hown hm28 hmsabs hmi hmcabs (Nat.le_of_ble_eq_true rfl) (Nat.le_of_ble_eq_true rfl) (Nat.le_of_ble_eq_true rfl) (Nat.le_of_ble_eq_true rfl) dX6_shorten_11 ?_
  obtain ⟨v_1, hv_1, hF⟩ := bd_s hF
  refine ro_ie (va_runS (As := [.int (if 0 ≤ x1 then x1 else 0 - x1), .int (if 0 ≤ x2 then x2 else 0 - x2)]) (rest := []) ⟨hx, hb, hml, hown, hts⟩ (kX6_commonDivisor l G (if 0 ≤ x1 then x1 else 0 - x1) (if 0 ≤ x2 then x2 else 0 - x2) v_1 hv_1) (va_cwS 2 hts gX6_shorten_X6_commonDivisor rfl rfl rfl (by decide +kernel) ⟨Nat.le_of_ble_eq_true rfl, Nat.le_of_ble_eq_true rfl⟩) (psR hK (hP.sub (ws' := ([] : va_W)) [] rfl)) rfl rfl hl.1 rfl (lv_room (Nat.le_of_ble_eq_true rfl)) dX6_shorten_14 ⟨Nat.le_of_ble_eq_true rfl, Nat.le_of_ble_eq_true rfl⟩) ?_
  refine lv_aload_n hx hb dX6_shorten_17 rfl (lv_at hl 0 rfl) ?_
  refine va_get (ci := 6) (v := .int x3) (C := RX6) (T := TX6) (N := 3) hx hb hts hin6 hown hK hP 0 rfl rfl 2 (by decide) hfl26 (fun _ h9 => h9) rfl dX6_shorten_18 ?_
  refine va_mabs hx hb (by rw [hml]; exact hl.1.symm) hown hm28 hmsabs hmi hmcabs (Nat.le_of_ble_eq_true rfl) (Nat.le_of_ble_eq_true rfl) (Nat.le_of_ble_eq_true rfl) (Nat.le_of_ble_eq_true rfl) dX6_shorten_21 ?_
  obtain ⟨v_2, hv_2, hF⟩ := bd_s hF
  refine ro_ie (va_runS (As := [.int v_1, .int (if 0 ≤ x3 then x3 else 0 - x3)]) (rest := []) ⟨hx, hb, hml, hown, hts⟩ (kX6_commonDivisor l G v_1 (if 0 ≤ x3 then x3 else 0 - x3) v_2 hv_2) (va_cwS 2 hts gX6_shorten_X6_commonDivisor rfl rfl rfl (by decide +kernel) ⟨Nat.le_of_ble_eq_true rfl, Nat.le_of_ble_eq_true rfl⟩) (psR hK (hP.sub (ws' := ([] : va_W)) [] rfl)) rfl rfl hl.1 rfl (lv_room (Nat.le_of_ble_eq_true rfl)) dX6_shorten_24 ⟨Nat.le_of_ble_eq_true rfl, Nat.le_of_ble_eq_true rfl⟩) ?_
  refine lv_istore_n (lv' := [(1, .int v_2), (0, .ref h0)]) hx hb dX6_shorten_27 rfl hl (by decide) rfl (fun ls hl => ?_)
  refine lv_iload_n hx hb dX6_shorten_28 rfl (lv_at hl 0 rfl) ?_
  refine lv_iconst (v := 1) hx hb dX6_shorten_29 (by decide) ?_
  refine lv_icmp_le (tgt := 63) hx hb dX6_shorten_30 (by decide) (fun c_3 => ?_) (fun c_3 => ?_)
  · replace hF := it_p c_3 hF
    exact W.vret hx hb hr (fun t ht hW => ⟨⟨(x1, x2, x3), rfl, so_e hF, qW_mk ht hP hK hW hD⟩, hS.F ht⟩) hS.2.2 dX6_shorten_63
  · replace hF := it_n c_3 hF
    refine lv_aload_n hx hb dX6_shorten_33 rfl (lv_at hl 1 rfl) ?_
    refine lv_dup hx hb dX6_shorten_34 rfl ?_
    refine va_get (ci := 6) (v := .int x1) (C := RX6) (T := TX6) (N := 3) hx hb hts hin6 hown hK hP 0 rfl rfl 0 (by decide) hfl13 (fun _ h9 => h9) rfl dX6_shorten_35 ?_
    refine lv_iload_n hx hb dX6_shorten_38 rfl (lv_at hl 0 rfl) ?_
    obtain ⟨hz_4, hF⟩ := gd_nz_s hF
    refine lv_idiv hx hb dX6_shorten_39 hz_4 ?_
    refine va_put (ci := 6) (v := .int (x1 / v_2)) (ty := .int) (C := RX6) (T := TX6) (N := 3) hx hb hts hin6 tyX6 tyX6_ok nmX6 hown hK hP hD hS 0 rfl rfl 0 (by decide) hfl13 (fun _ h9 => h9) rfl (by decide +kernel) rfl rfl (Nat.le_of_ble_eq_true rfl) dX6_shorten_40 (fun H locs hP hD hS => ?_)
    have hP : va_P (gD G) vwCl (wStp G h0 (x1 / v_2) x2 x3) H := hP
    have hD : va_D A (wStp G h0 (x1 / v_2) x2 x3) := hD
    refine lv_aload_n hx hb dX6_shorten_43 rfl (lv_at hl 1 rfl) ?_
    refine lv_dup hx hb dX6_shorten_44 rfl ?_
    refine va_get (ci := 6) (v := .int x2) (C := RX6) (T := TX6) (N := 3) hx hb hts hin6 hown hK hP 0 rfl rfl 1 (by decide) hfl21 (fun _ h9 => h9) rfl dX6_shorten_45 ?_
    refine lv_iload_n hx hb dX6_shorten_48 rfl (lv_at hl 0 rfl) ?_
    obtain ⟨hz_5, hF⟩ := gd_nz_s hF
    refine lv_idiv hx hb dX6_shorten_49 hz_5 ?_
    refine va_put (ci := 6) (v := .int (x2 / v_2)) (ty := .int) (C := RX6) (T := TX6) (N := 3) hx hb hts hin6 tyX6 tyX6_ok nmX6 hown hK hP hD hS 0 rfl rfl 1 (by decide) hfl21 (fun _ h9 => h9) rfl (by decide +kernel) rfl rfl (Nat.le_of_ble_eq_true rfl) dX6_shorten_50 (fun H locs hP hD hS => ?_)
    have hP : va_P (gD G) vwCl (wStp G h0 (x1 / v_2) (x2 / v_2) x3) H := hP
    have hD : va_D A (wStp G h0 (x1 / v_2) (x2 / v_2) x3) := hD
    refine lv_aload_n hx hb dX6_shorten_53 rfl (lv_at hl 1 rfl) ?_
    refine lv_dup hx hb dX6_shorten_54 rfl ?_
    refine va_get (ci := 6) (v := .int x3) (C := RX6) (T := TX6) (N := 3) hx hb hts hin6 hown hK hP 0 rfl rfl 2 (by decide) hfl26 (fun _ h9 => h9) rfl dX6_shorten_55 ?_
    refine lv_iload_n hx hb dX6_shorten_58 rfl (lv_at hl 0 rfl) ?_
    obtain ⟨hz_6, hF⟩ := gd_nz_s hF
    refine lv_idiv hx hb dX6_shorten_59 hz_6 ?_
    refine va_put (ci := 6) (v := .int (x3 / v_2)) (ty := .int) (C := RX6) (T := TX6) (N := 3) hx hb hts hin6 tyX6 tyX6_ok nmX6 hown hK hP hD hS 0 rfl rfl 2 (by decide) hfl26 (fun _ h9 => h9) rfl (by decide +kernel) rfl rfl (Nat.le_of_ble_eq_true rfl) dX6_shorten_60 (fun H locs hP hD hS => ?_)
    have hP : va_P (gD G) vwCl (wStp G h0 (x1 / v_2) (x2 / v_2) (x3 / v_2)) H := hP
    have hD : va_D A (wStp G h0 (x1 / v_2) (x2 / v_2) (x3 / v_2)) := hD
    exact W.vret hx hb hr (fun t ht hW => ⟨⟨(x1 / v_2, x2 / v_2, x3 / v_2), rfl, so_e hF, qW_mk ht hP hK hW hD⟩, hS.F ht⟩) hS.2.2 dX6_shorten_63
def LX5_renew_12 (n : Nat)  : Nat → Int32 → Int32 → Int32 → (Nat → Int64) → Option (Int32 × Int32 × (Nat → Int64))
  | 0, _, _, _, _ => none
  | k + 1, a3, mla, msi, mCE =>
  (if 36 ≤ a3 then (some (mla, msi, mCE)) else (gd_in a3 n (LX5_renew_12 n k (a3 + 1) mla msi (vp_updL mCE a3.toNatClampNeg 0))))
def fX5_renew (n : Nat) (la : Int32) (si : Int32) (CE : Nat → Int64) (p1 : Int32) (p2 : Int32) : Option (Int32 × Int32 × (Nat → Int64)) :=
  (LX5_renew_12 n FU 0 p1 p2 CE)
abbrev rX5_renew : Room := { frames := 0, cells := 0, slots := 0, locals := 0 }
set_option maxHeartbeats 40000000 in
set_option maxRecDepth 100000 in
theorem kX5_renew (l : Launch) (G : GT) (h0 ac : Nat) (sz : Nat) (n : Nat) (la : Int32) (si : Int32) (CE : Nat → Int64) (p1 : Int32) (p2 : Int32) (res : Int32 × Int32 × (Nat → Int64)) (hF : fX5_renew n la si CE p1 p2 = some res) : Met l yX5_renew wsX5_renew rX5_renew (va_Pc [.ref h0, .int p1, .int p2] (pW G sz (wShf G h0 ac n la si CE))) (va_Qv (fun (u : Int32 × Int32 × (Nat → Int64)) => u = res) (fun u t => qW G (va_A (wShf G h0 ac n la si CE) sz) (wShf G h0 ac n u.1 u.2.1 u.2.2) t) (va_A (wShf G h0 ac n la si CE) sz)) 0 0 (va_A (wShf G h0 ac n la si CE) sz) := by
  refine Met.ofW (cc := cX5_renew) (maxL := 4) (ret := none) (by decide) rfl ?_
  intro p e s m args below meth c s₁ B hml hv
  obtain ⟨rfl, hsz, hP, hK, hD0⟩ := hv
  have hx := B.exec
  have hb := B.bytes
  have hr := B.returns
  have hts := atoms_spec (ws := wsX5_renew) B.pre
  have hown : s.vm.findClass RX5 = some m.cls := findClass_of_methodNamed B.named
  have hlocks := B.notSynchronized
  subst hsz
  have hD := hD0.self (sz := s.heap.size)
  generalize hAe : va_A (wShf G h0 ac n la si CE) s.heap.size = A at hD ⊢
  have hA : ∀ q : Nat, s.heap.size ≤ q → A q := fun q h => by rw [← hAe]; exact Or.inr h
  have hS : va_S A s.heap s.heap [] := va_S.rf
  have hin5 : ∀ w ∈ u_ws RX5 TX5 3, w ∈ wsX5_renew := by decide +kernel
  have hfl15 := hts (.fieldLink RX5 15 "SwellBodies$Sheaf" "lane" "I") (by decide +kernel)
  have hfl19 := hts (.fieldLink RX5 19 "SwellBodies$Sheaf" "size" "I") (by decide +kernel)
  have hfl9 := hts (.fieldLink RX5 9 "SwellBodies$Sheaf" "cells" "[J") (by decide +kernel)
  have hl := lv_entry ([.ref h0, .int p1, .int p2]) (n := 4) (Nat.le_of_ble_eq_true rfl)
  rw [lg_entry_eq]
  generalize (lg_sl ([.ref h0, .int p1, .int p2]) ++ List.replicate (4 - (lg_sl ([.ref h0, .int p1, .int p2])).length) Slot.unset).toArray = ls at hl ⊢
  have hl : lv_has ls 4 [(0, .ref h0), (1, .int p1), (2, .int p2)] := hl
  have hL12 : ∀ (k : Nat), ∀ (a3 : Int32) (mla : Int32) (msi : Int32) (mCE : Nat → Int64) (H : Heap) (locs : List Loc) (ls : Array Slot), LX5_renew_12 n k a3 mla msi mCE = some res → va_P (gD G) vwCl (wShf G h0 ac n mla msi mCE) H → va_D A (wShf G h0 ac n mla msi mCE) → va_S A s.heap H locs → lv_has ls 4 [(0, .ref h0), (3, .int a3)] → W p l e (headSpec wsX5_renew rX5_renew).room s m ([.ref h0, .int p1, .int p2] : List Value).toArray below meth c H locs 0 0 (MQ below (va_Qv (fun (u : Int32 × Int32 × (Nat → Int64)) => u = res) (fun u t => qW G A (wShf G h0 ac n u.1 u.2.1 u.2.2) t) A) ([.ref h0, .int p1, .int p2] : List Value).toArray s 0 0 A) (F0 m 12 ls []) := by
    intro k
    induction k with
    | zero =>
      intro a3 mla msi mCE H locs ls hF hP hD hS hl
      rw [LX5_renew_12] at hF
      cases hF
    | succ k ih =>
      intro a3 mla msi mCE H locs ls hF hP hD hS hl
      rw [LX5_renew_12] at hF
      refine lv_iload_n hx hb dX5_renew_12 rfl (lv_at hl 1 rfl) ?_
      refine lv_bipush (v := 36) hx hb dX5_renew_13 (by decide) ?_
      refine lv_icmp_ge (tgt := 31) hx hb dX5_renew_15 (by decide) (fun c_1 => ?_) (fun c_1 => ?_)
      · replace hF := it_p c_1 hF
        exact W.vret hx hb hr (fun t ht hW => ⟨⟨(mla, msi, mCE), rfl, so_e hF, qW_mk ht hP hK hW hD⟩, hS.F ht⟩) hS.2.2 dX5_renew_31
      · replace hF := it_n c_1 hF
        refine lv_aload_n hx hb dX5_renew_18 rfl (lv_at hl 0 rfl) ?_
        refine va_get (ci := 5) (v := .ref ac) (C := RX5) (T := TX5) (N := 3) hx hb hts hin5 hown hK hP 0 rfl rfl 0 (by decide) hfl9 (fun _ h9 => h9) rfl dX5_renew_19 ?_
        refine lv_iload_n hx hb dX5_renew_22 rfl (lv_at hl 1 rfl) ?_
        refine lv_lconst (v := 0) hx hb dX5_renew_23 (by decide) ?_
        obtain ⟨hi_2, hF⟩ := gd_in_s hF
        refine va_last hx hb hK hP hD hS 1 1 rfl rfl hi_2 dX5_renew_24 (fun H locs hP hD hS => ?_)
        have hP : va_P (gD G) vwCl (wShf G h0 ac n mla msi (vp_updL mCE a3.toNatClampNeg 0)) H := hP
        have hD : va_D A (wShf G h0 ac n mla msi (vp_updL mCE a3.toNatClampNeg 0)) := hD
        refine lv_iinc (v := a3 + 1) (lv' := [(3, .int (a3 + 1)), (0, .ref h0)]) hx hb dX5_renew_25 hl (k := 1) rfl rfl (by decide) rfl (fun ls hl => ?_)
        refine lv_goto (tgt := 12) hx hb dX5_renew_28 (by decide) ?_
        exact ih (a3 + 1) mla msi (vp_updL mCE a3.toNatClampNeg 0) _ _ _ hF hP hD hS (lv_sub hl [1, 0] rfl)
  unfold fX5_renew at hF
  refine lv_aload_n hx hb dX5_renew_0 rfl (lv_at hl 0 rfl) ?_
  refine lv_iload_n hx hb dX5_renew_1 rfl (lv_at hl 1 rfl) ?_
  refine va_put (ci := 5) (v := .int p1) (ty := .int) (C := RX5) (T := TX5) (N := 3) hx hb hts hin5 tyX5 tyX5_ok nmX5 hown hK hP hD hS 0 rfl rfl 1 (by decide) hfl15 (fun _ h9 => h9) rfl (by decide +kernel) rfl rfl (Nat.le_of_ble_eq_true rfl) dX5_renew_2 (fun H locs hP hD hS => ?_)
  have hP : va_P (gD G) vwCl (wShf G h0 ac n p1 si CE) H := hP
  have hD : va_D A (wShf G h0 ac n p1 si CE) := hD
  refine lv_aload_n hx hb dX5_renew_5 rfl (lv_at hl 0 rfl) ?_
  refine lv_iload_n hx hb dX5_renew_6 rfl (lv_at hl 2 rfl) ?_
  refine va_put (ci := 5) (v := .int p2) (ty := .int) (C := RX5) (T := TX5) (N := 3) hx hb hts hin5 tyX5 tyX5_ok nmX5 hown hK hP hD hS 0 rfl rfl 2 (by decide) hfl19 (fun _ h9 => h9) rfl (by decide +kernel) rfl rfl (Nat.le_of_ble_eq_true rfl) dX5_renew_7 (fun H locs hP hD hS => ?_)
  have hP : va_P (gD G) vwCl (wShf G h0 ac n p1 p2 CE) H := hP
  have hD : va_D A (wShf G h0 ac n p1 p2 CE) := hD
  refine lv_iconst (v := 0) hx hb dX5_renew_10 (by decide) ?_
  refine lv_istore_n (lv' := [(3, .int 0), (0, .ref h0), (1, .int p1), (2, .int p2)]) hx hb dX5_renew_11 rfl hl (by decide) rfl (fun ls hl => ?_)
  exact hL12 FU 0 p1 p2 CE _ _ _ hF hP hD hS (lv_sub hl [1, 0] rfl)
def JX5_put_31 (n : Nat) (la : Int32) (si : Int32)  (t0 : Int64) (t1 : Int32) (mCE : Nat → Int64) : Option ((Nat → Int64)) :=
  (gd_in t1 n (some (vp_updL mCE t1.toNatClampNeg t0)))
def fX5_put (n : Nat) (la : Int32) (si : Int32) (CE : Nat → Int64) (p1 : Int32) (p2 : Int64) : Option ((Nat → Int64)) :=
  (if p1 < 0 then (some CE) else (if si ≤ p1 then (some CE) else (if la = 0 then (JX5_put_31 n la si p2.toInt32.toInt64 p1 CE) else (JX5_put_31 n la si p2 p1 CE))))
abbrev rX5_put : Room := { frames := 0, cells := 0, slots := 0, locals := 0 }
set_option maxHeartbeats 40000000 in
set_option maxRecDepth 100000 in
theorem kX5_put (l : Launch) (G : GT) (h0 ac : Nat) (sz : Nat) (n : Nat) (la : Int32) (si : Int32) (CE : Nat → Int64) (p1 : Int32) (p2 : Int64) (res : (Nat → Int64)) (hF : fX5_put n la si CE p1 p2 = some res) : Met l yX5_put wsX5_put rX5_put (va_Pc [.ref h0, .int p1, .long p2] (pW G sz (wShf G h0 ac n la si CE))) (va_Qv (fun (u : (Nat → Int64)) => u = res) (fun u t => qW G (va_A (wShf G h0 ac n la si CE) sz) (wShf G h0 ac n la si u) t) (va_A (wShf G h0 ac n la si CE) sz)) 0 0 (va_A (wShf G h0 ac n la si CE) sz) := by
  refine Met.ofW (cc := cX5_put) (maxL := 4) (ret := none) (by decide) rfl ?_
  intro p e s m args below meth c s₁ B hml hv
  obtain ⟨rfl, hsz, hP, hK, hD0⟩ := hv
  have hx := B.exec
  have hb := B.bytes
  have hr := B.returns
  have hts := atoms_spec (ws := wsX5_put) B.pre
  have hown : s.vm.findClass RX5 = some m.cls := findClass_of_methodNamed B.named
  have hlocks := B.notSynchronized
  subst hsz
  have hD := hD0.self (sz := s.heap.size)
  generalize hAe : va_A (wShf G h0 ac n la si CE) s.heap.size = A at hD ⊢
  have hA : ∀ q : Nat, s.heap.size ≤ q → A q := fun q h => by rw [← hAe]; exact Or.inr h
  have hS : va_S A s.heap s.heap [] := va_S.rf
  have hin5 : ∀ w ∈ u_ws RX5 TX5 3, w ∈ wsX5_put := by decide +kernel
  have hfl19 := hts (.fieldLink RX5 19 "SwellBodies$Sheaf" "size" "I") (by decide +kernel)
  have hfl9 := hts (.fieldLink RX5 9 "SwellBodies$Sheaf" "cells" "[J") (by decide +kernel)
  have hfl15 := hts (.fieldLink RX5 15 "SwellBodies$Sheaf" "lane" "I") (by decide +kernel)
  have hl := lv_entry ([.ref h0, .int p1, .long p2]) (n := 4) (Nat.le_of_ble_eq_true rfl)
  rw [lg_entry_eq]
  generalize (lg_sl ([.ref h0, .int p1, .long p2]) ++ List.replicate (4 - (lg_sl ([.ref h0, .int p1, .long p2])).length) Slot.unset).toArray = ls at hl ⊢
  have hl : lv_has ls 4 [(0, .ref h0), (1, .int p1), (2, .long p2)] := hl
  have hJ31 : ∀ (t0 : Int64) (t1 : Int32) (mCE : Nat → Int64) (H : Heap) (locs : List Loc) (ls : Array Slot), JX5_put_31 n la si t0 t1 mCE = some res → va_P (gD G) vwCl (wShf G h0 ac n la si mCE) H → va_D A (wShf G h0 ac n la si mCE) → va_S A s.heap H locs → lv_has ls 4 [] → W p l e (headSpec wsX5_put rX5_put).room s m ([.ref h0, .int p1, .long p2] : List Value).toArray below meth c H locs 0 0 (MQ below (va_Qv (fun (u : (Nat → Int64)) => u = res) (fun u t => qW G A (wShf G h0 ac n la si u) t) A) ([.ref h0, .int p1, .long p2] : List Value).toArray s 0 0 A) (F0 m 31 ls [.long t0, .int t1, .ref ac]) := by
    intro t0 t1 mCE H locs ls hF hP hD hS hl
    unfold JX5_put_31 at hF
    obtain ⟨hi_4, hF⟩ := gd_in_s hF
    refine va_last hx hb hK hP hD hS 1 1 rfl rfl hi_4 dX5_put_31 (fun H locs hP hD hS => ?_)
    have hP : va_P (gD G) vwCl (wShf G h0 ac n la si (vp_updL mCE t1.toNatClampNeg t0)) H := hP
    have hD : va_D A (wShf G h0 ac n la si (vp_updL mCE t1.toNatClampNeg t0)) := hD
    exact W.vret hx hb hr (fun t ht hW => ⟨⟨vp_updL mCE t1.toNatClampNeg t0, rfl, so_e hF, qW_mk ht hP hK hW hD⟩, hS.F ht⟩) hS.2.2 dX5_put_32
  unfold fX5_put at hF
  refine lv_iload_n hx hb dX5_put_0 rfl (lv_at hl 1 rfl) ?_
  refine lv_if_lt (tgt := 32) hx hb dX5_put_1 (by decide) (fun c_1 => ?_) (fun c_1 => ?_)
  · replace hF := it_p c_1 hF
    exact W.vret hx hb hr (fun t ht hW => ⟨⟨CE, rfl, so_e hF, qW_mk ht hP hK hW hD⟩, hS.F ht⟩) hS.2.2 dX5_put_32
  · replace hF := it_n c_1 hF
    refine lv_iload_n hx hb dX5_put_4 rfl (lv_at hl 1 rfl) ?_
    refine lv_aload_n hx hb dX5_put_5 rfl (lv_at hl 0 rfl) ?_
    refine va_get (ci := 5) (v := .int si) (C := RX5) (T := TX5) (N := 3) hx hb hts hin5 hown hK hP 0 rfl rfl 2 (by decide) hfl19 (fun _ h9 => h9) rfl dX5_put_6 ?_
    refine lv_icmp_ge (tgt := 32) hx hb dX5_put_9 (by decide) (fun c_2 => ?_) (fun c_2 => ?_)
    · replace hF := it_p c_2 hF
      exact W.vret hx hb hr (fun t ht hW => ⟨⟨CE, rfl, so_e hF, qW_mk ht hP hK hW hD⟩, hS.F ht⟩) hS.2.2 dX5_put_32
    · replace hF := it_n c_2 hF
      refine lv_aload_n hx hb dX5_put_12 rfl (lv_at hl 0 rfl) ?_
      refine va_get (ci := 5) (v := .ref ac) (C := RX5) (T := TX5) (N := 3) hx hb hts hin5 hown hK hP 0 rfl rfl 0 (by decide) hfl9 (fun _ h9 => h9) rfl dX5_put_13 ?_
      refine lv_iload_n hx hb dX5_put_16 rfl (lv_at hl 1 rfl) ?_
      refine lv_aload_n hx hb dX5_put_17 rfl (lv_at hl 0 rfl) ?_
      refine va_get (ci := 5) (v := .int la) (C := RX5) (T := TX5) (N := 3) hx hb hts hin5 hown hK hP 0 rfl rfl 1 (by decide) hfl15 (fun _ h9 => h9) rfl dX5_put_18 ?_
      refine lv_if_ne (tgt := 30) hx hb dX5_put_21 (by decide) (fun c_3 => ?_) (fun c_3 => ?_)
      · replace hF := it_n c_3 hF
        refine lv_lload_n hx hb dX5_put_30 rfl (lv_at hl 2 rfl) ?_
        exact hJ31 p2 p1 CE _ _ _ hF hP hD hS (lv_sub hl [] rfl)
      · replace hF := it_p c_3 hF
        refine lv_lload_n hx hb dX5_put_24 rfl (lv_at hl 2 rfl) ?_
        refine lv_l2i hx hb dX5_put_25 rfl ?_
        refine lv_i2l hx hb dX5_put_26 rfl ?_
        refine lv_goto (tgt := 31) hx hb dX5_put_27 (by decide) ?_
        exact hJ31 p2.toInt32.toInt64 p1 CE _ _ _ hF hP hD hS (lv_sub hl [] rfl)
def fX5_cell (n : Nat) (si : Int32) (CE : Nat → Int64) (p1 : Int32) : Option (Int64) :=
  (if p1 < 0 then (some 0) else (if si ≤ p1 then (some 0) else (gd_in p1 n (some (CE p1.toNatClampNeg)))))
abbrev rX5_cell : Room := { frames := 0, cells := 0, slots := 0, locals := 0 }
set_option maxHeartbeats 40000000 in
set_option maxRecDepth 100000 in
theorem kX5_cell (l : Launch) (G : GT) (h0 ac : Nat) (n : Nat) (la : Int32) (si : Int32) (CE : Nat → Int64) (p1 : Int32) (res : Int64) (hF : fX5_cell n si CE p1 = some res) : Met l yX5_cell wsX5_cell rX5_cell (va_Pc [.ref h0, .int p1] (pR G (wShf G h0 ac n la si CE))) (vp_Sl (fun r => r = res)) 0 0 (fun _ => False) := by
  refine Met.ofW (cc := cX5_cell) (maxL := 2) (ret := (some .long)) (by decide) rfl ?_
  intro p e s m args below meth c s₁ B hml hv
  obtain ⟨rfl, hP, hK⟩ := hv
  have hx := B.exec
  have hb := B.bytes
  have hr := B.returns
  have hts := atoms_spec (ws := wsX5_cell) B.pre
  have hown : s.vm.findClass RX5 = some m.cls := findClass_of_methodNamed B.named
  have hlocks := B.notSynchronized
  have hin5 : ∀ w ∈ u_ws RX5 TX5 3, w ∈ wsX5_cell := by decide +kernel
  have hfl19 := hts (.fieldLink RX5 19 "SwellBodies$Sheaf" "size" "I") (by decide +kernel)
  have hfl9 := hts (.fieldLink RX5 9 "SwellBodies$Sheaf" "cells" "[J") (by decide +kernel)
  have hl := lv_entry ([.ref h0, .int p1]) (n := 2) (Nat.le_of_ble_eq_true rfl)
  rw [lg_entry_eq]
  generalize (lg_sl ([.ref h0, .int p1]) ++ List.replicate (2 - (lg_sl ([.ref h0, .int p1])).length) Slot.unset).toArray = ls at hl ⊢
  have hl : lv_has ls 2 [(0, .ref h0), (1, .int p1)] := hl
  unfold fX5_cell at hF
  refine lv_iload_n hx hb dX5_cell_0 rfl (lv_at hl 1 rfl) ?_
  refine lv_if_lt (tgt := 21) hx hb dX5_cell_1 (by decide) (fun c_1 => ?_) (fun c_1 => ?_)
  · replace hF := it_p c_1 hF
    refine lv_lconst (v := 0) hx hb dX5_cell_21 (by decide) ?_
    exact W.lret (v := 0) hx hb hr  (fun t ht hW => ⟨0, rfl, (so_e hF), ht⟩) (fun q h => absurd h List.not_mem_nil) dX5_cell_22
  · replace hF := it_n c_1 hF
    refine lv_iload_n hx hb dX5_cell_4 rfl (lv_at hl 1 rfl) ?_
    refine lv_aload_n hx hb dX5_cell_5 rfl (lv_at hl 0 rfl) ?_
    refine va_get (ci := 5) (v := .int si) (C := RX5) (T := TX5) (N := 3) hx hb hts hin5 hown hK hP 0 rfl rfl 2 (by decide) hfl19 (fun _ h9 => h9) rfl dX5_cell_6 ?_
    refine lv_icmp_ge (tgt := 21) hx hb dX5_cell_9 (by decide) (fun c_2 => ?_) (fun c_2 => ?_)
    · replace hF := it_p c_2 hF
      refine lv_lconst (v := 0) hx hb dX5_cell_21 (by decide) ?_
      exact W.lret (v := 0) hx hb hr  (fun t ht hW => ⟨0, rfl, (so_e hF), ht⟩) (fun q h => absurd h List.not_mem_nil) dX5_cell_22
    · replace hF := it_n c_2 hF
      refine lv_aload_n hx hb dX5_cell_12 rfl (lv_at hl 0 rfl) ?_
      refine va_get (ci := 5) (v := .ref ac) (C := RX5) (T := TX5) (N := 3) hx hb hts hin5 hown hK hP 0 rfl rfl 0 (by decide) hfl9 (fun _ h9 => h9) rfl dX5_cell_13 ?_
      refine lv_iload_n hx hb dX5_cell_16 rfl (lv_at hl 1 rfl) ?_
      obtain ⟨hi_3, hF⟩ := gd_in_s hF
      refine va_lald hx hb hK hP 1 1 rfl rfl hi_3 dX5_cell_17 ?_
      refine lv_goto (tgt := 22) hx hb dX5_cell_18 (by decide) ?_
      exact W.lret (v := CE p1.toNatClampNeg) hx hb hr  (fun t ht hW => ⟨CE p1.toNatClampNeg, rfl, (so_e hF), ht⟩) (fun q h => absurd h List.not_mem_nil) dX5_cell_22
def fX2_at (NU : Nat → Int32) (p1 : Int64) : Option (Int64) :=
  (gd_in 3 4 (gd_in 2 4 (gd_in 1 4 (gd_in 0 4 (some (((((((((NU (3 : Int32).toNatClampNeg).toInt64) * p1) + ((NU (2 : Int32).toNatClampNeg).toInt64)) * p1) + ((NU (1 : Int32).toNatClampNeg).toInt64)) * p1) + ((NU (0 : Int32).toNatClampNeg).toInt64)) / 6))))))
abbrev rX2_at : Room := { frames := 0, cells := 0, slots := 0, locals := 0 }
set_option maxHeartbeats 40000000 in
set_option maxRecDepth 100000 in
theorem kX2_at (l : Launch) (G : GT) (h0 an : Nat) (dg : Int32) (NU : Nat → Int32) (p1 : Int64) (res : Int64) (hF : fX2_at NU p1 = some res) : Met l yX2_at wsX2_at rX2_at (va_Pc [.ref h0, .long p1] (pR G (wGro G h0 an dg NU))) (vp_Sl (fun r => r = res)) 0 0 (fun _ => False) := by
  refine Met.ofW (cc := cX2_at) (maxL := 3) (ret := (some .long)) (by decide) rfl ?_
  intro p e s m args below meth c s₁ B hml hv
  obtain ⟨rfl, hP, hK⟩ := hv
  have hx := B.exec
  have hb := B.bytes
  have hr := B.returns
  have hts := atoms_spec (ws := wsX2_at) B.pre
  have hown : s.vm.findClass RX2 = some m.cls := findClass_of_methodNamed B.named
  have hlocks := B.notSynchronized
  have hin2 : ∀ w ∈ u_ws RX2 TX2 2, w ∈ wsX2_at := by decide +kernel
  have hfl7 := hts (.fieldLink RX2 7 "SwellBodies$Growth" "numbers" "[I") (by decide +kernel)
  have hcn23 := hts (.constantLong RX2 23 (6)) (by decide +kernel)
  have hl := lv_entry ([.ref h0, .long p1]) (n := 3) (Nat.le_of_ble_eq_true rfl)
  rw [lg_entry_eq]
  generalize (lg_sl ([.ref h0, .long p1]) ++ List.replicate (3 - (lg_sl ([.ref h0, .long p1])).length) Slot.unset).toArray = ls at hl ⊢
  have hl : lv_has ls 3 [(0, .ref h0), (1, .long p1)] := hl
  unfold fX2_at at hF
  refine lv_aload_n hx hb dX2_at_0 rfl (lv_at hl 0 rfl) ?_
  refine va_get (ci := 2) (v := .ref an) (C := RX2) (T := TX2) (N := 2) hx hb hts hin2 hown hK hP 0 rfl rfl 0 (by decide) hfl7 (fun _ h9 => h9) rfl dX2_at_1 ?_
  refine lv_iconst (v := 3) hx hb dX2_at_4 (by decide) ?_
  obtain ⟨hi_1, hF⟩ := gd_in_s hF
  refine va_iald hx hb hK hP 1 0 rfl rfl hi_1 dX2_at_5 ?_
  refine lv_i2l hx hb dX2_at_6 rfl ?_
  refine lv_lload_n hx hb dX2_at_7 rfl (lv_at hl 1 rfl) ?_
  refine lv_lmul hx hb dX2_at_8 ?_
  refine lv_aload_n hx hb dX2_at_9 rfl (lv_at hl 0 rfl) ?_
  refine va_get (ci := 2) (v := .ref an) (C := RX2) (T := TX2) (N := 2) hx hb hts hin2 hown hK hP 0 rfl rfl 0 (by decide) hfl7 (fun _ h9 => h9) rfl dX2_at_10 ?_
  refine lv_iconst (v := 2) hx hb dX2_at_13 (by decide) ?_
  obtain ⟨hi_2, hF⟩ := gd_in_s hF
  refine va_iald hx hb hK hP 1 0 rfl rfl hi_2 dX2_at_14 ?_
  refine lv_i2l hx hb dX2_at_15 rfl ?_
  refine lv_ladd hx hb dX2_at_16 ?_
  refine lv_lload_n hx hb dX2_at_17 rfl (lv_at hl 1 rfl) ?_
  refine lv_lmul hx hb dX2_at_18 ?_
  refine lv_aload_n hx hb dX2_at_19 rfl (lv_at hl 0 rfl) ?_
  refine va_get (ci := 2) (v := .ref an) (C := RX2) (T := TX2) (N := 2) hx hb hts hin2 hown hK hP 0 rfl rfl 0 (by decide) hfl7 (fun _ h9 => h9) rfl dX2_at_20 ?_
  refine lv_iconst (v := 1) hx hb dX2_at_23 (by decide) ?_
  obtain ⟨hi_3, hF⟩ := gd_in_s hF
  refine va_iald hx hb hK hP 1 0 rfl rfl hi_3 dX2_at_24 ?_
  refine lv_i2l hx hb dX2_at_25 rfl ?_
  refine lv_ladd hx hb dX2_at_26 ?_
  refine lv_lload_n hx hb dX2_at_27 rfl (lv_at hl 1 rfl) ?_
  refine lv_lmul hx hb dX2_at_28 ?_
  refine lv_aload_n hx hb dX2_at_29 rfl (lv_at hl 0 rfl) ?_
  refine va_get (ci := 2) (v := .ref an) (C := RX2) (T := TX2) (N := 2) hx hb hts hin2 hown hK hP 0 rfl rfl 0 (by decide) hfl7 (fun _ h9 => h9) rfl dX2_at_30 ?_
  refine lv_iconst (v := 0) hx hb dX2_at_33 (by decide) ?_
  obtain ⟨hi_4, hF⟩ := gd_in_s hF
  refine va_iald hx hb hK hP 1 0 rfl rfl hi_4 dX2_at_34 ?_
  refine lv_i2l hx hb dX2_at_35 rfl ?_
  refine lv_ladd hx hb dX2_at_36 ?_
  refine lv_ldc2 (v := 6) hx hb hown hcn23 dX2_at_37 ?_
  refine lv_ldiv hx hb dX2_at_40 (by decide) ?_
  exact W.lret (v := ((((((((NU (3 : Int32).toNatClampNeg).toInt64) * p1) + ((NU (2 : Int32).toNatClampNeg).toInt64)) * p1) + ((NU (1 : Int32).toNatClampNeg).toInt64)) * p1) + ((NU (0 : Int32).toNatClampNeg).toInt64)) / 6) hx hb hr  (fun t ht hW => ⟨((((((((NU (3 : Int32).toNatClampNeg).toInt64) * p1) + ((NU (2 : Int32).toNatClampNeg).toInt64)) * p1) + ((NU (1 : Int32).toNatClampNeg).toInt64)) * p1) + ((NU (0 : Int32).toNatClampNeg).toInt64)) / 6, rfl, (so_e hF), ht⟩) (fun q h => absurd h List.not_mem_nil) dX2_at_41
def LX2_stair_8 (dg : Int32) (NU : Nat → Int32)  : Nat → Int32 → Int64 → Int64 → Int32 → Option (Int32)
  | 0, _, _, _, _ => none
  | k + 1, a1, a2, a4, a6 =>
  (if a1 < a6 then (some a2.toInt32) else (bd (fX2_at NU ((a1 - a6).toInt64)) (fun v_2 => (gd_nzL ((a6 + 1).toInt64) (cut (((-a4) * (((dg + 1) - a6).toInt64)) / ((a6 + 1).toInt64)) (fun c_4 => (LX2_stair_8 dg NU k a1 (a2 + (a4 * v_2)) c_4 (a6 + 1))))))))
def fX2_stair (dg : Int32) (NU : Nat → Int32) (p1 : Int32) : Option (Int32) :=
  (LX2_stair_8 dg NU FU p1 0 1 0)
abbrev rX2_stair : Room := { frames := 1, cells := 0, slots := 0, locals := 22 }
set_option maxHeartbeats 40000000 in
set_option maxRecDepth 100000 in
theorem kX2_stair (l : Launch) (G : GT) (h0 an : Nat) (dg : Int32) (NU : Nat → Int32) (p1 : Int32) (res : Int32) (hF : fX2_stair dg NU p1 = some res) : Met l yX2_stair wsX2_stair rX2_stair (va_Pc [.ref h0, .int p1] (pR G (wGro G h0 an dg NU))) (vp_Si (fun r => r = res)) 0 0 (fun _ => False) := by
  refine Met.ofW (cc := cX2_stair) (maxL := 7) (ret := (some .int)) (by decide) rfl ?_
  intro p e s m args below meth c s₁ B hml hv
  obtain ⟨rfl, hP, hK⟩ := hv
  have hx := B.exec
  have hb := B.bytes
  have hr := B.returns
  have hts := atoms_spec (ws := wsX2_stair) B.pre
  have hown : s.vm.findClass RX2 = some m.cls := findClass_of_methodNamed B.named
  have hlocks := B.notSynchronized
  have hin2 : ∀ w ∈ u_ws RX2 TX2 2, w ∈ wsX2_stair := by decide +kernel
  have hfl19 := hts (.fieldLink RX2 19 "SwellBodies$Growth" "degree" "I") (by decide +kernel)
  have hl := lv_entry ([.ref h0, .int p1]) (n := 7) (Nat.le_of_ble_eq_true rfl)
  rw [lg_entry_eq]
  generalize (lg_sl ([.ref h0, .int p1]) ++ List.replicate (7 - (lg_sl ([.ref h0, .int p1])).length) Slot.unset).toArray = ls at hl ⊢
  have hl : lv_has ls 7 [(0, .ref h0), (1, .int p1)] := hl
  have hL8 : ∀ (k : Nat), ∀ (a1 : Int32) (a2 : Int64) (a4 : Int64) (a6 : Int32) (ls : Array Slot), LX2_stair_8 dg NU k a1 a2 a4 a6 = some res → lv_has ls 7 [(0, .ref h0), (1, .int a1), (2, .long a2), (4, .long a4), (6, .int a6)] → W p l e (headSpec wsX2_stair rX2_stair).room s m ([.ref h0, .int p1] : List Value).toArray below meth c s.heap [] 0 0 (MQ below (vp_Si (fun r => r = res)) ([.ref h0, .int p1] : List Value).toArray s 0 0 (fun _ => False)) (F0 m 8 ls []) := by
    intro k
    induction k with
    | zero =>
      intro a1 a2 a4 a6 ls hF hl
      rw [LX2_stair_8] at hF
      cases hF
    | succ k ih =>
      intro a1 a2 a4 a6 ls hF hl
      rw [LX2_stair_8] at hF
      refine lv_iload hx hb dX2_stair_8 (lv_at hl 4 rfl) ?_
      refine lv_iload_n hx hb dX2_stair_10 rfl (lv_at hl 1 rfl) ?_
      refine lv_icmp_gt (tgt := 57) hx hb dX2_stair_11 (by decide) (fun c_1 => ?_) (fun c_1 => ?_)
      · replace hF := it_p c_1 hF
        refine lv_lload_n hx hb dX2_stair_57 rfl (lv_at hl 2 rfl) ?_
        refine lv_l2i hx hb dX2_stair_58 rfl ?_
        exact W.iret (v := a2.toInt32) hx hb hr  (fun t ht hW => ⟨a2.toInt32, rfl, (so_e hF), ht⟩) (fun q h => absurd h List.not_mem_nil) dX2_stair_59
      · replace hF := it_n c_1 hF
        refine lv_lload_n hx hb dX2_stair_14 rfl (lv_at hl 2 rfl) ?_
        refine lv_lload hx hb dX2_stair_15 (lv_at hl 3 rfl) ?_
        refine lv_aload_n hx hb dX2_stair_17 rfl (lv_at hl 0 rfl) ?_
        refine lv_iload_n hx hb dX2_stair_18 rfl (lv_at hl 1 rfl) ?_
        refine lv_iload hx hb dX2_stair_19 (lv_at hl 4 rfl) ?_
        refine lv_isub hx hb dX2_stair_21 ?_
        refine lv_i2l hx hb dX2_stair_22 rfl ?_
        obtain ⟨v_2, hv_2, hF⟩ := bd_s hF
        refine ro_le (va_runV (As := [.long ((a1 - a6).toInt64)]) (rest := [.long a4, .long a2]) ⟨hx, hb, hml, hown, hts⟩ (kX2_at l G h0 an dg NU ((a1 - a6).toInt64) v_2 hv_2) (cwV 1 hts gX2_stair_X2_at rfl rfl rfl (by decide +kernel) ⟨Nat.le_of_ble_eq_true rfl, Nat.le_of_ble_eq_true rfl⟩) (pvR (q0 := 0) 2 hK (hP.sub (ws' := (wGro G h0 an dg NU)) [0, 1] rfl) rfl rfl) rfl rfl hl.1 rfl (lv_room (Nat.le_of_ble_eq_true rfl)) dX2_stair_23 ⟨Nat.le_of_ble_eq_true rfl, Nat.le_of_ble_eq_true rfl⟩) ?_
        refine lv_lmul hx hb dX2_stair_26 ?_
        refine lv_ladd hx hb dX2_stair_27 ?_
        refine lv_lstore_n (lv' := [(2, .long (a2 + (a4 * v_2))), (0, .ref h0), (1, .int a1), (4, .long a4), (6, .int a6)]) hx hb dX2_stair_28 rfl hl (by decide) rfl (fun ls hl => ?_)
        refine lv_lload hx hb dX2_stair_29 (lv_at hl 3 rfl) ?_
        refine lv_lneg hx hb dX2_stair_31 ?_
        refine lv_aload_n hx hb dX2_stair_32 rfl (lv_at hl 1 rfl) ?_
        refine va_get (ci := 2) (v := .int dg) (C := RX2) (T := TX2) (N := 2) hx hb hts hin2 hown hK hP 0 rfl rfl 1 (by decide) hfl19 (fun _ h9 => h9) rfl dX2_stair_33 ?_
        refine lv_iconst (v := 1) hx hb dX2_stair_36 (by decide) ?_
        refine lv_iadd hx hb dX2_stair_37 ?_
        refine lv_iload hx hb dX2_stair_38 (lv_at hl 4 rfl) ?_
        refine lv_isub hx hb dX2_stair_40 ?_
        refine lv_i2l hx hb dX2_stair_41 rfl ?_
        refine lv_lmul hx hb dX2_stair_42 ?_
        refine lv_iload hx hb dX2_stair_43 (lv_at hl 4 rfl) ?_
        refine lv_iconst (v := 1) hx hb dX2_stair_45 (by decide) ?_
        refine lv_iadd hx hb dX2_stair_46 ?_
        refine lv_i2l hx hb dX2_stair_47 rfl ?_
        obtain ⟨hz_3, hF⟩ := gd_nzL_s hF
        refine lv_ldiv hx hb dX2_stair_48 hz_3 ?_
        refine lv_topl (fun c_4 ec_4 => ?_)
        replace hF := cut_at ec_4 hF
        refine lv_lstore (lv' := [(4, .long c_4), (2, .long (a2 + (a4 * v_2))), (0, .ref h0), (1, .int a1), (6, .int a6)]) hx hb dX2_stair_49 hl (by decide) rfl (fun ls hl => ?_)
        refine lv_iinc (v := a6 + 1) (lv' := [(6, .int (a6 + 1)), (4, .long c_4), (2, .long (a2 + (a4 * v_2))), (0, .ref h0), (1, .int a1)]) hx hb dX2_stair_51 hl (k := 4) rfl rfl (by decide) rfl (fun ls hl => ?_)
        refine lv_goto (tgt := 8) hx hb dX2_stair_54 (by decide) ?_
        exact ih a1 (a2 + (a4 * v_2)) c_4 (a6 + 1) _ hF (lv_sub hl [3, 4, 2, 1, 0] rfl)
  unfold fX2_stair at hF
  refine lv_lconst (v := 0) hx hb dX2_stair_0 (by decide) ?_
  refine lv_lstore_n (lv' := [(2, .long 0), (0, .ref h0), (1, .int p1)]) hx hb dX2_stair_1 rfl hl (by decide) rfl (fun ls hl => ?_)
  refine lv_lconst (v := 1) hx hb dX2_stair_2 (by decide) ?_
  refine lv_lstore (lv' := [(4, .long 1), (2, .long 0), (0, .ref h0), (1, .int p1)]) hx hb dX2_stair_3 hl (by decide) rfl (fun ls hl => ?_)
  refine lv_iconst (v := 0) hx hb dX2_stair_5 (by decide) ?_
  refine lv_istore (lv' := [(6, .int 0), (4, .long 1), (2, .long 0), (0, .ref h0), (1, .int p1)]) hx hb dX2_stair_6 hl (by decide) rfl (fun ls hl => ?_)
  exact hL8 FU p1 0 1 0 _ hF (lv_sub hl [3, 4, 2, 1, 0] rfl)
