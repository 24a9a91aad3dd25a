abbrev wBdK (G : GT) (f0 c0 cx cy cz al ag s0 b0 aw : Nat) (nc : Nat) (fl : Int32) (mo : Int32) (og : Option Nat) (cs : Int32) (CX : Nat → Int32) (CY : Nat → Int32) (CZ : Nat → Int32) (LL : Nat → Int32) (GG : Nat → Int32) : va_W := [(f0, .inr (0, [.int fl, .int mo, .ref c0, .ref s0, .ref b0, .ref al, .ref ag, .ref aw, va_rf og])), (c0, .inr (4, [.ref cx, .ref cy, .ref cz, .int cs])), (cx, .inl (gI G, nc, .inl CX)), (cy, .inl (gI G, nc, .inl CY)), (cz, .inl (gI G, nc, .inl CZ)), (al, .inl (gI G, 3, .inl LL)), (ag, .inl (gI G, 3, .inl GG))]
abbrev wBdC (G : GT) (f0 c0 cx cy cz s0 sa sb sc se b0 al ag aw : Nat) (nc ns : Nat) (fl : Int32) (mo : Int32) (og : Option Nat) (cs : Int32) (CX : Nat → Int32) (CY : Nat → Int32) (CZ : Nat → Int32) (ss : Int32) (SA : Nat → Int32) (SB : Nat → Int32) (SC : Nat → Int32) (SE : Nat → Int32) : va_W := [(f0, .inr (0, [.int fl, .int mo, .ref c0, .ref s0, .ref b0, .ref al, .ref ag, .ref aw, va_rf og])), (c0, .inr (4, [.ref cx, .ref cy, .ref cz, .int cs])), (cx, .inl (gI G, nc, .inl CX)), (cy, .inl (gI G, nc, .inl CY)), (cz, .inl (gI G, nc, .inl CZ)), (s0, .inr (1, [.ref sa, .ref sb, .ref sc, .ref se, .int ss])), (sa, .inl (gI G, ns, .inl SA)), (sb, .inl (gI G, ns, .inl SB)), (sc, .inl (gI G, ns, .inl SC)), (se, .inl (gI G, ns, .inl SE))]
abbrev wBdS (G : GT) (f0 s0 sa sb sc se b0 ba bb bc be c0 al ag aw : Nat) (ns nb : Nat) (fl : Int32) (mo : Int32) (og : Option Nat) (ss : Int32) (SA : Nat → Int32) (SB : Nat → Int32) (SC : Nat → Int32) (SE : Nat → Int32) (bs : Int32) (BA : Nat → Int32) (BB : Nat → Int32) (BC : Nat → Int32) (BD : Nat → Int32) : va_W := [(f0, .inr (0, [.int fl, .int mo, .ref c0, .ref s0, .ref b0, .ref al, .ref ag, .ref aw, va_rf og])), (s0, .inr (1, [.ref sa, .ref sb, .ref sc, .ref se, .int ss])), (sa, .inl (gI G, ns, .inl SA)), (sb, .inl (gI G, ns, .inl SB)), (sc, .inl (gI G, ns, .inl SC)), (se, .inl (gI G, ns, .inl SE)), (b0, .inr (1, [.ref ba, .ref bb, .ref bc, .ref be, .int bs])), (ba, .inl (gI G, nb, .inl BA)), (bb, .inl (gI G, nb, .inl BB)), (bc, .inl (gI G, nb, .inl BC)), (be, .inl (gI G, nb, .inl BD))]
abbrev wBdH (G : GT) (f0 s0 sa sb sc se b0 ba bb bc be g0 bX bY bZ c0 al ag aw : Nat) (ns nb n2 : Nat) (fl : Int32) (mo : Int32) (og : Option Nat) (ss : Int32) (SA : Nat → Int32) (SB : Nat → Int32) (SC : Nat → Int32) (SE : Nat → Int32) (bs : Int32) (BA : Nat → Int32) (BB : Nat → Int32) (BC : Nat → Int32) (BD : Nat → Int32) (sz1 : Int32) (U : Nat → Int32) (V : Nat → Int32) (T : Nat → Int32) : va_W := [(f0, .inr (0, [.int fl, .int mo, .ref c0, .ref s0, .ref b0, .ref al, .ref ag, .ref aw, va_rf og])), (s0, .inr (1, [.ref sa, .ref sb, .ref sc, .ref se, .int ss])), (sa, .inl (gI G, ns, .inl SA)), (sb, .inl (gI G, ns, .inl SB)), (sc, .inl (gI G, ns, .inl SC)), (se, .inl (gI G, ns, .inl SE)), (b0, .inr (1, [.ref ba, .ref bb, .ref bc, .ref be, .int bs])), (ba, .inl (gI G, nb, .inl BA)), (bb, .inl (gI G, nb, .inl BB)), (bc, .inl (gI G, nb, .inl BC)), (be, .inl (gI G, nb, .inl BD)), (g0, .inr (4, [.ref bX, .ref bY, .ref bZ, .int sz1])), (bX, .inl (gI G, n2, .inl U)), (bY, .inl (gI G, n2, .inl V)), (bZ, .inl (gI G, n2, .inl T))]
abbrev wBdG (G : GT) (f0 c0 cx cy cz s0 b0 al ag aw : Nat) (nc : Nat) (fl : Int32) (mo : Int32) (og : Option Nat) (cs : Int32) (CX : Nat → Int32) (CY : Nat → Int32) (CZ : Nat → Int32) : va_W := [(f0, .inr (0, [.int fl, .int mo, .ref c0, .ref s0, .ref b0, .ref al, .ref ag, .ref aw, va_rf og])), (c0, .inr (4, [.ref cx, .ref cy, .ref cz, .int cs])), (cx, .inl (gI G, nc, .inl CX)), (cy, .inl (gI G, nc, .inl CY)), (cz, .inl (gI G, nc, .inl CZ))]
abbrev wBdM (G : GT) (f0 al ag c0 s0 b0 aw : Nat) (fl : Int32) (mo : Int32) (og : Option Nat) (LL : Nat → Int32) (GG : Nat → Int32) : va_W := [(f0, .inr (0, [.int fl, .int mo, .ref c0, .ref s0, .ref b0, .ref al, .ref ag, .ref aw, va_rf og])), (al, .inl (gI G, 3, .inl LL)), (ag, .inl (gI G, 3, .inl GG))]
def JX0_isBrick_80 (nc : Nat) (cs : Int32) (CX : Nat → Int32) (CY : Nat → Int32) (CZ : Nat → Int32) (LL : Nat → Int32) (GG : Nat → Int32) (k34 : Int32 → Int32 → Int32 → Option (Int32)) (k86 : Int32 → Int32 → Option (Int32)) (a1 : Int32) (a2 : Int32) (a3 : Int32) : Option (Int32) :=
  (k34 a1 a2 (a3 + 1))
def LX0_isBrick_34 (nc : Nat) (cs : Int32) (CX : Nat → Int32) (CY : Nat → Int32) (CZ : Nat → Int32) (LL : Nat → Int32) (GG : Nat → Int32) (k86 : Int32 → Int32 → Option (Int32)) : Nat → Int32 → Int32 → Int32 → Option (Int32)
  | 0, _, _, _ => none
  | k + 1, a1, a2, a3 =>
  (if cs ≤ a3 then (k86 a1 a2) else (bd (fX4_part nc cs CX CY CZ a3 a2) (fun v_6 => (gd_in a2 3 (if v_6 = LL a2.toNatClampNeg then (JX0_isBrick_80 nc cs CX CY CZ LL GG (LX0_isBrick_34 nc cs CX CY CZ LL GG k86 k) k86 a1 a2 a3) else (if v_6 = GG a2.toNatClampNeg then (JX0_isBrick_80 nc cs CX CY CZ LL GG (LX0_isBrick_34 nc cs CX CY CZ LL GG k86 k) k86 a1 a2 a3) else (some 0)))))))
def JX0_isBrick_30 (nc : Nat) (cs : Int32) (CX : Nat → Int32) (CY : Nat → Int32) (CZ : Nat → Int32) (LL : Nat → Int32) (GG : Nat → Int32) (k4 : Int32 → Int32 → Option (Int32)) (a2 : Int32) (t0 : Int32) (t1 : Int32) : Option (Int32) :=
  (LX0_isBrick_34 nc cs CX CY CZ LL GG (fun a1 a2 => (k4 a1 (a2 + 1))) FU (t1 * t0) a2 0)
def LX0_isBrick_4 (nc : Nat) (cs : Int32) (CX : Nat → Int32) (CY : Nat → Int32) (CZ : Nat → Int32) (LL : Nat → Int32) (GG : Nat → Int32)  : Nat → Int32 → Int32 → Option (Int32)
  | 0, _, _ => none
  | k + 1, a1, a2 =>
  (if 3 ≤ a2 then (if cs = a1 then (some 1) else (some 0)) else (gd_in a2 3 (if GG a2.toNatClampNeg ≤ LL a2.toNatClampNeg then (JX0_isBrick_30 nc cs CX CY CZ LL GG (LX0_isBrick_4 nc cs CX CY CZ LL GG k) a2 1 a1) else (JX0_isBrick_30 nc cs CX CY CZ LL GG (LX0_isBrick_4 nc cs CX CY CZ LL GG k) a2 2 a1))))
def fX0_isBrick (nc : Nat) (cs : Int32) (CX : Nat → Int32) (CY : Nat → Int32) (CZ : Nat → Int32) (LL : Nat → Int32) (GG : Nat → Int32) : Option (Int32) :=
  (LX0_isBrick_4 nc cs CX CY CZ LL GG FU 1 0)
abbrev rX0_isBrick : Room := { frames := 1, cells := 0, slots := 0, locals := 22 }
set_option maxHeartbeats 40000000 in
set_option maxRecDepth 100000 in
theorem kX0_isBrick (l : Launch) (G : GT) (f0 c0 cx cy cz al ag s0 b0 aw : Nat) (nc : Nat) (fl : Int32) (mo : Int32) (og : Option Nat) (cs : Int32) (CX : Nat → Int32) (CY : Nat → Int32) (CZ : Nat → Int32) (LL : Nat → Int32) (GG : Nat → Int32) (res : Int32) (hF : fX0_isBrick nc cs CX CY CZ LL GG = some res) : Met l yX0_isBrick wsX0_isBrick rX0_isBrick (va_Pc [.ref f0] (pR G (wBdK G f0 c0 cx cy cz al ag s0 b0 aw nc fl mo og cs CX CY CZ LL GG))) (vp_Si (fun r => r = res ∧ (r = 0 ∨ r = 1))) 0 0 (fun _ => False) := by
  refine Met.ofW (cc := cX0_isBrick) (maxL := 5) (ret := (some .boolean)) (by decide) rfl ?_
  intro p e s m args below meth c s₁ B hml hv
  obtain ⟨rfl, hP, hK⟩ := hv
  have hx := B.exec
  have hb := B.bytes
  have hr := B.returns
  have hts := atoms_spec (ws := wsX0_isBrick) B.pre
  have hown : s.vm.findClass RX0 = some m.cls := findClass_of_methodNamed B.named
  have hlocks := B.notSynchronized
  have hin0 : ∀ w ∈ u_ws RX0 TX0 9, w ∈ wsX0_isBrick := by decide +kernel
  have hfl31 := hts (.fieldLink RX0 31 "SwellBodies$Body" "corners" "LSwellBodies$Points;") (by decide +kernel)
  have hin4 : ∀ w ∈ u_ws RX4 TX4 4, w ∈ wsX0_isBrick := by decide +kernel
  have hfl48 := hts (.fieldLink RX0 48 "SwellBodies$Points" "size" "I") (by decide +kernel)
  have hfl9 := hts (.fieldLink RX0 9 "SwellBodies$Body" "least" "[I") (by decide +kernel)
  have hfl15 := hts (.fieldLink RX0 15 "SwellBodies$Body" "greatest" "[I") (by decide +kernel)
  have hl := lv_entry ([.ref f0]) (n := 5) (Nat.le_of_ble_eq_true rfl)
  rw [lg_entry_eq]
  generalize (lg_sl ([.ref f0]) ++ List.replicate (5 - (lg_sl ([.ref f0])).length) Slot.unset).toArray = ls at hl ⊢
  have hl : lv_has ls 5 [(0, .ref f0)] := hl
  have hJ80 : ∀ (k34 : Int32 → Int32 → Int32 → Option (Int32)), (∀ (a1 : Int32) (a2 : Int32) (a3 : Int32) (ls : Array Slot), k34 a1 a2 a3 = some res → lv_has ls 5 [(0, .ref f0), (1, .int a1), (2, .int a2), (3, .int a3)] → W p l e (headSpec wsX0_isBrick rX0_isBrick).room s m ([.ref f0] : List Value).toArray below meth c s.heap [] 0 0 (MQ below (vp_Si (fun r => r = res ∧ (r = 0 ∨ r = 1))) ([.ref f0] : List Value).toArray s 0 0 (fun _ => False)) (F0 m 34 ls [])) → ∀ (k86 : Int32 → Int32 → Option (Int32)), (∀ (a1 : Int32) (a2 : Int32) (ls : Array Slot), k86 a1 a2 = some res → lv_has ls 5 [(0, .ref f0), (1, .int a1), (2, .int a2)] → W p l e (headSpec wsX0_isBrick rX0_isBrick).room s m ([.ref f0] : List Value).toArray below meth c s.heap [] 0 0 (MQ below (vp_Si (fun r => r = res ∧ (r = 0 ∨ r = 1))) ([.ref f0] : List Value).toArray s 0 0 (fun _ => False)) (F0 m 86 ls [])) → ∀ (a1 : Int32) (a2 : Int32) (a3 : Int32) (ls : Array Slot), JX0_isBrick_80 nc cs CX CY CZ LL GG k34 k86 a1 a2 a3 = some res → lv_has ls 5 [(0, .ref f0), (1, .int a1), (2, .int a2), (3, .int a3)] → W p l e (headSpec wsX0_isBrick rX0_isBrick).room s m ([.ref f0] : List Value).toArray below meth c s.heap [] 0 0 (MQ below (vp_Si (fun r => r = res ∧ (r = 0 ∨ r = 1))) ([.ref f0] : List Value).toArray s 0 0 (fun _ => False)) (F0 m 80 ls []) := by
    intro k34 hk34 k86 hk86
    intro a1 a2 a3 ls hF hl
    unfold JX0_isBrick_80 at hF
    refine lv_iinc (v := a3 + 1) (lv' := [(3, .int (a3 + 1)), (0, .ref f0), (1, .int a1), (2, .int a2)]) hx hb dX0_isBrick_80 hl (k := 3) rfl rfl (by decide) rfl (fun ls hl => ?_)
    refine lv_goto (tgt := 34) hx hb dX0_isBrick_83 (by decide) ?_
    exact hk34 a1 a2 (a3 + 1) _ hF (lv_sub hl [1, 2, 3, 0] rfl)
  have hL34 : ∀ (k86 : Int32 → Int32 → Option (Int32)), (∀ (a1 : Int32) (a2 : Int32) (ls : Array Slot), k86 a1 a2 = some res → lv_has ls 5 [(0, .ref f0), (1, .int a1), (2, .int a2)] → W p l e (headSpec wsX0_isBrick rX0_isBrick).room s m ([.ref f0] : List Value).toArray below meth c s.heap [] 0 0 (MQ below (vp_Si (fun r => r = res ∧ (r = 0 ∨ r = 1))) ([.ref f0] : List Value).toArray s 0 0 (fun _ => False)) (F0 m 86 ls [])) → ∀ (k : Nat), ∀ (a1 : Int32) (a2 : Int32) (a3 : Int32) (ls : Array Slot), LX0_isBrick_34 nc cs CX CY CZ LL GG k86 k a1 a2 a3 = some res → lv_has ls 5 [(0, .ref f0), (1, .int a1), (2, .int a2), (3, .int a3)] → W p l e (headSpec wsX0_isBrick rX0_isBrick).room s m ([.ref f0] : List Value).toArray below meth c s.heap [] 0 0 (MQ below (vp_Si (fun r => r = res ∧ (r = 0 ∨ r = 1))) ([.ref f0] : List Value).toArray s 0 0 (fun _ => False)) (F0 m 34 ls []) := by
    intro k86 hk86
    intro k
    induction k with
    | zero =>
      intro a1 a2 a3 ls hF hl
      rw [LX0_isBrick_34] at hF
      cases hF
    | succ k ih =>
      intro a1 a2 a3 ls hF hl
      rw [LX0_isBrick_34] at hF
      refine lv_iload_n hx hb dX0_isBrick_34 rfl (lv_at hl 3 rfl) ?_
      refine lv_aload_n hx hb dX0_isBrick_35 rfl (lv_at hl 0 rfl) ?_
      refine va_get (ci := 0) (v := .ref c0) (C := RX0) (T := TX0) (N := 9) hx hb hts hin0 hown hK hP 0 rfl rfl 2 (by decide) hfl31 (fun _ h9 => h9) rfl dX0_isBrick_36 ?_
      refine va_get (ci := 4) (v := .int cs) (C := RX4) (T := TX4) (N := 4) hx hb hts hin4 hown hK hP 1 rfl rfl 3 (by decide) hfl48 (fun _ h9 => h9) rfl dX0_isBrick_39 ?_
      refine lv_icmp_ge (tgt := 86) hx hb dX0_isBrick_42 (by decide) (fun c_5 => ?_) (fun c_5 => ?_)
      · replace hF := it_p c_5 hF
        exact hk86 a1 a2 _ hF (lv_sub hl [0, 1, 2] rfl)
      · replace hF := it_n c_5 hF
        refine lv_aload_n hx hb dX0_isBrick_45 rfl (lv_at hl 0 rfl) ?_
        refine va_get (ci := 0) (v := .ref c0) (C := RX0) (T := TX0) (N := 9) hx hb hts hin0 hown hK hP 0 rfl rfl 2 (by decide) hfl31 (fun _ h9 => h9) rfl dX0_isBrick_46 ?_
        refine lv_iload_n hx hb dX0_isBrick_49 rfl (lv_at hl 3 rfl) ?_
        refine lv_iload_n hx hb dX0_isBrick_50 rfl (lv_at hl 2 rfl) ?_
        obtain ⟨v_6, hv_6, hF⟩ := bd_s hF
        refine ro_ie (va_runV (As := [.int a3, .int a2]) (rest := []) ⟨hx, hb, hml, hown, hts⟩ (kX4_part l G c0 cx cy cz nc cs CX CY CZ a3 a2 v_6 hv_6) (cwV 2 hts gX0_isBrick_X4_part rfl rfl rfl (by decide +kernel) ⟨Nat.le_of_ble_eq_true rfl, Nat.le_of_ble_eq_true rfl⟩) (pvR (q0 := 0) 4 hK (hP.sub (ws' := (wPts G c0 cx cy cz nc cs CX CY CZ)) [1, 2, 3, 4] rfl) rfl rfl) rfl rfl hl.1 rfl (lv_room (Nat.le_of_ble_eq_true rfl)) dX0_isBrick_51 ⟨Nat.le_of_ble_eq_true rfl, Nat.le_of_ble_eq_true rfl⟩) ?_
        refine lv_istore (lv' := [(4, .int v_6), (0, .ref f0), (1, .int a1), (2, .int a2), (3, .int a3)]) hx hb dX0_isBrick_54 hl (by decide) rfl (fun ls hl => ?_)
        refine lv_iload hx hb dX0_isBrick_56 (lv_at hl 0 rfl) ?_
        refine lv_aload_n hx hb dX0_isBrick_58 rfl (lv_at hl 1 rfl) ?_
        refine va_get (ci := 0) (v := .ref al) (C := RX0) (T := TX0) (N := 9) hx hb hts hin0 hown hK hP 0 rfl rfl 5 (by decide) hfl9 (fun _ h9 => h9) rfl dX0_isBrick_59 ?_
        refine lv_iload_n hx hb dX0_isBrick_62 rfl (lv_at hl 3 rfl) ?_
        obtain ⟨hi_7, hF⟩ := gd_in_s hF
        refine va_iald hx hb hK hP 5 0 rfl rfl hi_7 dX0_isBrick_63 ?_
        refine lv_icmp_eq (tgt := 80) hx hb dX0_isBrick_64 (by decide) (fun c_8 => ?_) (fun c_8 => ?_)
        · replace hF := it_p c_8 hF
          exact hJ80 _ ih _ hk86 a1 a2 a3 _ hF (lv_sub hl [1, 2, 3, 4] rfl)
        · replace hF := it_n c_8 hF
          refine lv_iload hx hb dX0_isBrick_67 (lv_at hl 0 rfl) ?_
          refine lv_aload_n hx hb dX0_isBrick_69 rfl (lv_at hl 1 rfl) ?_
          refine va_get (ci := 0) (v := .ref ag) (C := RX0) (T := TX0) (N := 9) hx hb hts hin0 hown hK hP 0 rfl rfl 6 (by decide) hfl15 (fun _ h9 => h9) rfl dX0_isBrick_70 ?_
          refine lv_iload_n hx hb dX0_isBrick_73 rfl (lv_at hl 3 rfl) ?_
          refine va_iald hx hb hK hP 6 0 rfl rfl hi_7 dX0_isBrick_74 ?_
          refine lv_icmp_eq (tgt := 80) hx hb dX0_isBrick_75 (by decide) (fun c_9 => ?_) (fun c_9 => ?_)
          · replace hF := it_p c_9 hF
            exact hJ80 _ ih _ hk86 a1 a2 a3 _ hF (lv_sub hl [1, 2, 3, 4] rfl)
          · replace hF := it_n c_9 hF
            refine lv_iconst (v := 0) hx hb dX0_isBrick_78 (by decide) ?_
            exact W.zret (v := 0) hx hb hr rfl (fun t ht hW => ⟨0, rfl, ⟨so_e hF, (Or.inl rfl)⟩, ht⟩) (fun q h => absurd h List.not_mem_nil) dX0_isBrick_79
  have hJ30 : ∀ (k4 : Int32 → Int32 → Option (Int32)), (∀ (a1 : Int32) (a2 : Int32) (ls : Array Slot), k4 a1 a2 = some res → lv_has ls 5 [(0, .ref f0), (1, .int a1), (2, .int a2)] → W p l e (headSpec wsX0_isBrick rX0_isBrick).room s m ([.ref f0] : List Value).toArray below meth c s.heap [] 0 0 (MQ below (vp_Si (fun r => r = res ∧ (r = 0 ∨ r = 1))) ([.ref f0] : List Value).toArray s 0 0 (fun _ => False)) (F0 m 4 ls [])) → ∀ (a2 : Int32) (t0 : Int32) (t1 : Int32) (ls : Array Slot), JX0_isBrick_30 nc cs CX CY CZ LL GG k4 a2 t0 t1 = some res → lv_has ls 5 [(0, .ref f0), (2, .int a2)] → W p l e (headSpec wsX0_isBrick rX0_isBrick).room s m ([.ref f0] : List Value).toArray below meth c s.heap [] 0 0 (MQ below (vp_Si (fun r => r = res ∧ (r = 0 ∨ r = 1))) ([.ref f0] : List Value).toArray s 0 0 (fun _ => False)) (F0 m 30 ls [.int t0, .int t1]) := by
    intro k4 hk4
    intro a2 t0 t1 ls hF hl
    unfold JX0_isBrick_30 at hF
    refine lv_imul hx hb dX0_isBrick_30 ?_
    refine lv_istore_n (lv' := [(1, .int (t1 * t0)), (0, .ref f0), (2, .int a2)]) hx hb dX0_isBrick_31 rfl hl (by decide) rfl (fun ls hl => ?_)
    refine lv_iconst (v := 0) hx hb dX0_isBrick_32 (by decide) ?_
    refine lv_istore_n (lv' := [(3, .int 0), (1, .int (t1 * t0)), (0, .ref f0), (2, .int a2)]) hx hb dX0_isBrick_33 rfl hl (by decide) rfl (fun ls hl => ?_)
    refine hL34 _ ?_ FU (t1 * t0) a2 0 _ hF (lv_sub hl [2, 1, 3, 0] rfl)
    · intro a1 a2 ls hF hl
      refine lv_iinc (v := a2 + 1) (lv' := [(2, .int (a2 + 1)), (0, .ref f0), (1, .int a1)]) hx hb dX0_isBrick_86 hl (k := 2) rfl rfl (by decide) rfl (fun ls hl => ?_)
      refine lv_goto (tgt := 4) hx hb dX0_isBrick_89 (by decide) ?_
      exact hk4 a1 (a2 + 1) _ hF (lv_sub hl [1, 2, 0] rfl)
  have hL4 : ∀ (k : Nat), ∀ (a1 : Int32) (a2 : Int32) (ls : Array Slot), LX0_isBrick_4 nc cs CX CY CZ LL GG k a1 a2 = some res → lv_has ls 5 [(0, .ref f0), (1, .int a1), (2, .int a2)] → W p l e (headSpec wsX0_isBrick rX0_isBrick).room s m ([.ref f0] : List Value).toArray below meth c s.heap [] 0 0 (MQ below (vp_Si (fun r => r = res ∧ (r = 0 ∨ r = 1))) ([.ref f0] : List Value).toArray s 0 0 (fun _ => False)) (F0 m 4 ls []) := by
    intro k
    induction k with
    | zero =>
      intro a1 a2 ls hF hl
      rw [LX0_isBrick_4] at hF
      cases hF
    | succ k ih =>
      intro a1 a2 ls hF hl
      rw [LX0_isBrick_4] at hF
      refine lv_iload_n hx hb dX0_isBrick_4 rfl (lv_at hl 2 rfl) ?_
      refine lv_iconst (v := 3) hx hb dX0_isBrick_5 (by decide) ?_
      refine lv_icmp_ge (tgt := 92) hx hb dX0_isBrick_6 (by decide) (fun c_1 => ?_) (fun c_1 => ?_)
      · replace hF := it_p c_1 hF
        refine lv_aload_n hx hb dX0_isBrick_92 rfl (lv_at hl 0 rfl) ?_
        refine va_get (ci := 0) (v := .ref c0) (C := RX0) (T := TX0) (N := 9) hx hb hts hin0 hown hK hP 0 rfl rfl 2 (by decide) hfl31 (fun _ h9 => h9) rfl dX0_isBrick_93 ?_
        refine va_get (ci := 4) (v := .int cs) (C := RX4) (T := TX4) (N := 4) hx hb hts hin4 hown hK hP 1 rfl rfl 3 (by decide) hfl48 (fun _ h9 => h9) rfl dX0_isBrick_96 ?_
        refine lv_iload_n hx hb dX0_isBrick_99 rfl (lv_at hl 1 rfl) ?_
        refine lv_icmp_ne (tgt := 107) hx hb dX0_isBrick_100 (by decide) (fun c_2 => ?_) (fun c_2 => ?_)
        · replace hF := it_n c_2 hF
          refine lv_iconst (v := 0) hx hb dX0_isBrick_107 (by decide) ?_
          exact W.zret (v := 0) hx hb hr rfl (fun t ht hW => ⟨0, rfl, ⟨so_e hF, (Or.inl rfl)⟩, ht⟩) (fun q h => absurd h List.not_mem_nil) dX0_isBrick_108
        · replace hF := it_p c_2 hF
          refine lv_iconst (v := 1) hx hb dX0_isBrick_103 (by decide) ?_
          refine lv_goto (tgt := 108) hx hb dX0_isBrick_104 (by decide) ?_
          exact W.zret (v := 1) hx hb hr rfl (fun t ht hW => ⟨1, rfl, ⟨so_e hF, (Or.inr rfl)⟩, ht⟩) (fun q h => absurd h List.not_mem_nil) dX0_isBrick_108
      · replace hF := it_n c_1 hF
        refine lv_iload_n hx hb dX0_isBrick_9 rfl (lv_at hl 1 rfl) ?_
        refine lv_aload_n hx hb dX0_isBrick_10 rfl (lv_at hl 0 rfl) ?_
        refine va_get (ci := 0) (v := .ref al) (C := RX0) (T := TX0) (N := 9) hx hb hts hin0 hown hK hP 0 rfl rfl 5 (by decide) hfl9 (fun _ h9 => h9) rfl dX0_isBrick_11 ?_
        refine lv_iload_n hx hb dX0_isBrick_14 rfl (lv_at hl 2 rfl) ?_
        obtain ⟨hi_3, hF⟩ := gd_in_s hF
        refine va_iald hx hb hK hP 5 0 rfl rfl hi_3 dX0_isBrick_15 ?_
        refine lv_aload_n hx hb dX0_isBrick_16 rfl (lv_at hl 0 rfl) ?_
        refine va_get (ci := 0) (v := .ref ag) (C := RX0) (T := TX0) (N := 9) hx hb hts hin0 hown hK hP 0 rfl rfl 6 (by decide) hfl15 (fun _ h9 => h9) rfl dX0_isBrick_17 ?_
        refine lv_iload_n hx hb dX0_isBrick_20 rfl (lv_at hl 2 rfl) ?_
        refine va_iald hx hb hK hP 6 0 rfl rfl hi_3 dX0_isBrick_21 ?_
        refine lv_icmp_ge (tgt := 29) hx hb dX0_isBrick_22 (by decide) (fun c_4 => ?_) (fun c_4 => ?_)
        · replace hF := it_p c_4 hF
          refine lv_iconst (v := 1) hx hb dX0_isBrick_29 (by decide) ?_
          exact hJ30 _ ih a2 1 a1 _ hF (lv_sub hl [0, 2] rfl)
        · replace hF := it_n c_4 hF
          refine lv_iconst (v := 2) hx hb dX0_isBrick_25 (by decide) ?_
          refine lv_goto (tgt := 30) hx hb dX0_isBrick_26 (by decide) ?_
          exact hJ30 _ ih a2 2 a1 _ hF (lv_sub hl [0, 2] rfl)
  unfold fX0_isBrick at hF
  refine lv_iconst (v := 1) hx hb dX0_isBrick_0 (by decide) ?_
  refine lv_istore_n (lv' := [(1, .int 1), (0, .ref f0)]) hx hb dX0_isBrick_1 rfl hl (by decide) rfl (fun ls hl => ?_)
  refine lv_iconst (v := 0) hx hb dX0_isBrick_2 (by decide) ?_
  refine lv_istore_n (lv' := [(2, .int 0), (1, .int 1), (0, .ref f0)]) hx hb dX0_isBrick_3 rfl hl (by decide) rfl (fun ls hl => ?_)
  exact hL4 FU 1 0 _ hF (lv_sub hl [2, 1, 0] rfl)
def LX0_isMirror_2 (LL : Nat → Int32) (GG : Nat → Int32)  : Nat → Int32 → Option (Int32)
  | 0, _ => none
  | k + 1, a1 =>
  (if 3 ≤ a1 then (some 1) else (gd_in a1 3 (if LL a1.toNatClampNeg = -(GG a1.toNatClampNeg) then (LX0_isMirror_2 LL GG k (a1 + 1)) else (some 0))))
def fX0_isMirror (LL : Nat → Int32) (GG : Nat → Int32) : Option (Int32) :=
  (LX0_isMirror_2 LL GG FU 0)
abbrev rX0_isMirror : Room := { frames := 0, cells := 0, slots := 0, locals := 0 }
set_option maxHeartbeats 40000000 in
set_option maxRecDepth 100000 in
theorem kX0_isMirror (l : Launch) (G : GT) (f0 al ag c0 s0 b0 aw : Nat) (fl : Int32) (mo : Int32) (og : Option Nat) (LL : Nat → Int32) (GG : Nat → Int32) (res : Int32) (hF : fX0_isMirror LL GG = some res) : Met l yX0_isMirror wsX0_isMirror rX0_isMirror (va_Pc [.ref f0] (pR G (wBdM G f0 al ag c0 s0 b0 aw fl mo og LL GG))) (vp_Si (fun r => r = res ∧ (r = 0 ∨ r = 1))) 0 0 (fun _ => False) := by
  refine Met.ofW (cc := cX0_isMirror) (maxL := 2) (ret := (some .boolean)) (by decide) rfl ?_
  intro p e s m args below meth c s₁ B hml hv
  obtain ⟨rfl, hP, hK⟩ := hv
  have hx := B.exec
  have hb := B.bytes
  have hr := B.returns
  have hts := atoms_spec (ws := wsX0_isMirror) B.pre
  have hown : s.vm.findClass RX0 = some m.cls := findClass_of_methodNamed B.named
  have hlocks := B.notSynchronized
  have hin0 : ∀ w ∈ u_ws RX0 TX0 9, w ∈ wsX0_isMirror := by decide +kernel
  have hfl9 := hts (.fieldLink RX0 9 "SwellBodies$Body" "least" "[I") (by decide +kernel)
  have hfl15 := hts (.fieldLink RX0 15 "SwellBodies$Body" "greatest" "[I") (by decide +kernel)
  have hl := lv_entry ([.ref f0]) (n := 2) (Nat.le_of_ble_eq_true rfl)
  rw [lg_entry_eq]
  generalize (lg_sl ([.ref f0]) ++ List.replicate (2 - (lg_sl ([.ref f0])).length) Slot.unset).toArray = ls at hl ⊢
  have hl : lv_has ls 2 [(0, .ref f0)] := hl
  have hL2 : ∀ (k : Nat), ∀ (a1 : Int32) (ls : Array Slot), LX0_isMirror_2 LL GG k a1 = some res → lv_has ls 2 [(0, .ref f0), (1, .int a1)] → W p l e (headSpec wsX0_isMirror rX0_isMirror).room s m ([.ref f0] : List Value).toArray below meth c s.heap [] 0 0 (MQ below (vp_Si (fun r => r = res ∧ (r = 0 ∨ r = 1))) ([.ref f0] : List Value).toArray s 0 0 (fun _ => False)) (F0 m 2 ls []) := by
    intro k
    induction k with
    | zero =>
      intro a1 ls hF hl
      rw [LX0_isMirror_2] at hF
      cases hF
    | succ k ih =>
      intro a1 ls hF hl
      rw [LX0_isMirror_2] at hF
      refine lv_iload_n hx hb dX0_isMirror_2 rfl (lv_at hl 1 rfl) ?_
      refine lv_iconst (v := 3) hx hb dX0_isMirror_3 (by decide) ?_
      refine lv_icmp_ge (tgt := 31) hx hb dX0_isMirror_4 (by decide) (fun c_1 => ?_) (fun c_1 => ?_)
      · replace hF := it_p c_1 hF
        refine lv_iconst (v := 1) hx hb dX0_isMirror_31 (by decide) ?_
        exact W.zret (v := 1) hx hb hr rfl (fun t ht hW => ⟨1, rfl, ⟨so_e hF, (Or.inr rfl)⟩, ht⟩) (fun q h => absurd h List.not_mem_nil) dX0_isMirror_32
      · replace hF := it_n c_1 hF
        refine lv_aload_n hx hb dX0_isMirror_7 rfl (lv_at hl 0 rfl) ?_
        refine va_get (ci := 0) (v := .ref al) (C := RX0) (T := TX0) (N := 9) hx hb hts hin0 hown hK hP 0 rfl rfl 5 (by decide) hfl9 (fun _ h9 => h9) rfl dX0_isMirror_8 ?_
        refine lv_iload_n hx hb dX0_isMirror_11 rfl (lv_at hl 1 rfl) ?_
        obtain ⟨hi_2, hF⟩ := gd_in_s hF
        refine va_iald hx hb hK hP 1 0 rfl rfl hi_2 dX0_isMirror_12 ?_
        refine lv_aload_n hx hb dX0_isMirror_13 rfl (lv_at hl 0 rfl) ?_
        refine va_get (ci := 0) (v := .ref ag) (C := RX0) (T := TX0) (N := 9) hx hb hts hin0 hown hK hP 0 rfl rfl 6 (by decide) hfl15 (fun _ h9 => h9) rfl dX0_isMirror_14 ?_
        refine lv_iload_n hx hb dX0_isMirror_17 rfl (lv_at hl 1 rfl) ?_
        refine va_iald hx hb hK hP 2 0 rfl rfl hi_2 dX0_isMirror_18 ?_
        refine lv_ineg hx hb dX0_isMirror_19 ?_
        refine lv_icmp_eq (tgt := 25) hx hb dX0_isMirror_20 (by decide) (fun c_3 => ?_) (fun c_3 => ?_)
        · replace hF := it_p c_3 hF
          refine lv_iinc (v := a1 + 1) (lv' := [(1, .int (a1 + 1)), (0, .ref f0)]) hx hb dX0_isMirror_25 hl (k := 1) rfl rfl (by decide) rfl (fun ls hl => ?_)
          refine lv_goto (tgt := 2) hx hb dX0_isMirror_28 (by decide) ?_
          exact ih (a1 + 1) _ hF (lv_sub hl [1, 0] rfl)
        · replace hF := it_n c_3 hF
          refine lv_iconst (v := 0) hx hb dX0_isMirror_23 (by decide) ?_
          exact W.zret (v := 0) hx hb hr rfl (fun t ht hW => ⟨0, rfl, ⟨so_e hF, (Or.inl rfl)⟩, ht⟩) (fun q h => absurd h List.not_mem_nil) dX0_isMirror_24
  unfold fX0_isMirror at hF
  refine lv_iconst (v := 0) hx hb dX0_isMirror_0 (by decide) ?_
  refine lv_istore_n (lv' := [(1, .int 0), (0, .ref f0)]) hx hb dX0_isMirror_1 rfl hl (by decide) rfl (fun ls hl => ?_)
  exact hL2 FU 0 _ hF (lv_sub hl [1, 0] rfl)
def fX0_kind (nc : Nat) (fl : Int32) (cs : Int32) (CX : Nat → Int32) (CY : Nat → Int32) (CZ : Nat → Int32) (LL : Nat → Int32) (GG : Nat → Int32) : Option (Int32) :=
  (bd (fX0_isBrick nc cs CX CY CZ LL GG) (fun v_1 => (if v_1 = 0 then (if cs = fl + 1 then (some 2) else (if 3 ≤ fl then (some 0) else (some 1))) else (bd (fX0_isMirror LL GG) (fun v_6 => (if v_6 = 0 then (some 3) else (some 4)))))))
abbrev rX0_kind : Room := { frames := 2, cells := 0, slots := 0, locals := 46 }
set_option maxHeartbeats 40000000 in
set_option maxRecDepth 100000 in
theorem kX0_kind (l : Launch) (G : GT) (f0 c0 cx cy cz al ag s0 b0 aw : Nat) (nc : Nat) (fl : Int32) (mo : Int32) (og : Option Nat) (cs : Int32) (CX : Nat → Int32) (CY : Nat → Int32) (CZ : Nat → Int32) (LL : Nat → Int32) (GG : Nat → Int32) (res : Int32) (hF : fX0_kind nc fl cs CX CY CZ LL GG = some res) : Met l yX0_kind wsX0_kind rX0_kind (va_Pc [.ref f0] (pR G (wBdK G f0 c0 cx cy cz al ag s0 b0 aw nc fl mo og cs CX CY CZ LL GG))) (vp_Si (fun r => r = res)) 0 0 (fun _ => False) := by
  refine Met.ofW (cc := cX0_kind) (maxL := 1) (ret := (some .int)) (by decide) rfl ?_
  intro p e s m args below meth c s₁ B hml hv
  obtain ⟨rfl, hP, hK⟩ := hv
  have hx := B.exec
  have hb := B.bytes
  have hr := B.returns
  have hts := atoms_spec (ws := wsX0_kind) B.pre
  have hown : s.vm.findClass RX0 = some m.cls := findClass_of_methodNamed B.named
  have hlocks := B.notSynchronized
  have hin0 : ∀ w ∈ u_ws RX0 TX0 9, w ∈ wsX0_kind := by decide +kernel
  have hfl31 := hts (.fieldLink RX0 31 "SwellBodies$Body" "corners" "LSwellBodies$Points;") (by decide +kernel)
  have hin4 : ∀ w ∈ u_ws RX4 TX4 4, w ∈ wsX0_kind := by decide +kernel
  have hfl48 := hts (.fieldLink RX0 48 "SwellBodies$Points" "size" "I") (by decide +kernel)
  have hfl24 := hts (.fieldLink RX0 24 "SwellBodies$Body" "fills" "I") (by decide +kernel)
  have hl := lv_entry ([.ref f0]) (n := 1) (Nat.le_of_ble_eq_true rfl)
  rw [lg_entry_eq]
  generalize (lg_sl ([.ref f0]) ++ List.replicate (1 - (lg_sl ([.ref f0])).length) Slot.unset).toArray = ls at hl ⊢
  have hl : lv_has ls 1 [(0, .ref f0)] := hl
  unfold fX0_kind at hF
  refine lv_aload_n hx hb dX0_kind_0 rfl (lv_at hl 0 rfl) ?_
  obtain ⟨v_1, hv_1, hF⟩ := bd_s hF
  refine ro_ze (va_runV (As := []) (rest := []) ⟨hx, hb, hml, hown, hts⟩ (kX0_isBrick l G f0 c0 cx cy cz al ag s0 b0 aw nc fl mo og cs CX CY CZ LL GG v_1 hv_1) (cwV 0 hts gX0_kind_X0_isBrick rfl rfl rfl (by decide +kernel) ⟨Nat.le_of_ble_eq_true rfl, Nat.le_of_ble_eq_true rfl⟩) (pvR (q0 := 0) 0 hK (hP.sub (ws' := (wBdK G f0 c0 cx cy cz al ag s0 b0 aw nc fl mo og cs CX CY CZ LL GG)) [0, 1, 2, 3, 4, 5, 6] rfl) rfl rfl) rfl rfl hl.1 rfl (lv_room (Nat.le_of_ble_eq_true rfl)) dX0_kind_1 ⟨Nat.le_of_ble_eq_true rfl, Nat.le_of_ble_eq_true rfl⟩) (fun hb_2 => ?_)
  refine lv_if_eq (tgt := 20) hx hb dX0_kind_4 (by decide) (fun c_3 => ?_) (fun c_3 => ?_)
  · replace hF := it_p c_3 hF
    refine lv_aload_n hx hb dX0_kind_20 rfl (lv_at hl 0 rfl) ?_
    refine va_get (ci := 0) (v := .ref c0) (C := RX0) (T := TX0) (N := 9) hx hb hts hin0 hown hK hP 0 rfl rfl 2 (by decide) hfl31 (fun _ h9 => h9) rfl dX0_kind_21 ?_
    refine va_get (ci := 4) (v := .int cs) (C := RX4) (T := TX4) (N := 4) hx hb hts hin4 hown hK hP 1 rfl rfl 3 (by decide) hfl48 (fun _ h9 => h9) rfl dX0_kind_24 ?_
    refine lv_aload_n hx hb dX0_kind_27 rfl (lv_at hl 0 rfl) ?_
    refine va_get (ci := 0) (v := .int fl) (C := RX0) (T := TX0) (N := 9) hx hb hts hin0 hown hK hP 0 rfl rfl 0 (by decide) hfl24 (fun _ h9 => h9) rfl dX0_kind_28 ?_
    refine lv_iconst (v := 1) hx hb dX0_kind_31 (by decide) ?_
    refine lv_iadd hx hb dX0_kind_32 ?_
    refine lv_icmp_ne (tgt := 38) hx hb dX0_kind_33 (by decide) (fun c_4 => ?_) (fun c_4 => ?_)
    · replace hF := it_n c_4 hF
      refine lv_aload_n hx hb dX0_kind_38 rfl (lv_at hl 0 rfl) ?_
      refine va_get (ci := 0) (v := .int fl) (C := RX0) (T := TX0) (N := 9) hx hb hts hin0 hown hK hP 0 rfl rfl 0 (by decide) hfl24 (fun _ h9 => h9) rfl dX0_kind_39 ?_
      refine lv_iconst (v := 3) hx hb dX0_kind_42 (by decide) ?_
      refine lv_icmp_ge (tgt := 50) hx hb dX0_kind_43 (by decide) (fun c_5 => ?_) (fun c_5 => ?_)
      · replace hF := it_p c_5 hF
        refine lv_iconst (v := 0) hx hb dX0_kind_50 (by decide) ?_
        exact W.iret (v := 0) hx hb hr  (fun t ht hW => ⟨0, rfl, (so_e hF), ht⟩) (fun q h => absurd h List.not_mem_nil) dX0_kind_51
      · replace hF := it_n c_5 hF
        refine lv_iconst (v := 1) hx hb dX0_kind_46 (by decide) ?_
        refine lv_goto (tgt := 51) hx hb dX0_kind_47 (by decide) ?_
        exact W.iret (v := 1) hx hb hr  (fun t ht hW => ⟨1, rfl, (so_e hF), ht⟩) (fun q h => absurd h List.not_mem_nil) dX0_kind_51
    · replace hF := it_p c_4 hF
      refine lv_iconst (v := 2) hx hb dX0_kind_36 (by decide) ?_
      exact W.iret (v := 2) hx hb hr  (fun t ht hW => ⟨2, rfl, (so_e hF), ht⟩) (fun q h => absurd h List.not_mem_nil) dX0_kind_37
  · replace hF := it_n c_3 hF
    refine lv_aload_n hx hb dX0_kind_7 rfl (lv_at hl 0 rfl) ?_
    obtain ⟨v_6, hv_6, hF⟩ := bd_s hF
    refine ro_ze (va_runV (As := []) (rest := []) ⟨hx, hb, hml, hown, hts⟩ (kX0_isMirror l G f0 al ag c0 s0 b0 aw fl mo og LL GG v_6 hv_6) (cwV 0 hts gX0_kind_X0_isMirror rfl rfl rfl (by decide +kernel) ⟨Nat.le_of_ble_eq_true rfl, Nat.le_of_ble_eq_true rfl⟩) (pvR (q0 := 0) 0 hK (hP.sub (ws' := (wBdM G f0 al ag c0 s0 b0 aw fl mo og LL GG)) [0, 5, 6] rfl) rfl rfl) rfl rfl hl.1 rfl (lv_room (Nat.le_of_ble_eq_true rfl)) dX0_kind_8 ⟨Nat.le_of_ble_eq_true rfl, Nat.le_of_ble_eq_true rfl⟩) (fun hb_7 => ?_)
    refine lv_if_eq (tgt := 18) hx hb dX0_kind_11 (by decide) (fun c_8 => ?_) (fun c_8 => ?_)
    · replace hF := it_p c_8 hF
      refine lv_iconst (v := 3) hx hb dX0_kind_18 (by decide) ?_
      exact W.iret (v := 3) hx hb hr  (fun t ht hW => ⟨3, rfl, (so_e hF), ht⟩) (fun q h => absurd h List.not_mem_nil) dX0_kind_19
    · replace hF := it_n c_8 hF
      refine lv_iconst (v := 4) hx hb dX0_kind_14 (by decide) ?_
      refine lv_goto (tgt := 19) hx hb dX0_kind_15 (by decide) ?_
      exact W.iret (v := 4) hx hb hr  (fun t ht hW => ⟨4, rfl, (so_e hF), ht⟩) (fun q h => absurd h List.not_mem_nil) dX0_kind_19
def JX0_cornersOn_62 (nc : Nat) (ns : Nat) (cs : Int32) (CX : Nat → Int32) (CY : Nat → Int32) (CZ : Nat → Int32) (SA : Nat → Int32) (SB : Nat → Int32) (SC : Nat → Int32) (SE : Nat → Int32) (k4 : Int32 → Int32 → Int32 → Option (Int32)) (a1 : Int32) (a2 : Int32) (a3 : Int32) : Option (Int32) :=
  (k4 a1 a2 (a3 + 1))
def LX0_cornersOn_4 (nc : Nat) (ns : Nat) (cs : Int32) (CX : Nat → Int32) (CY : Nat → Int32) (CZ : Nat → Int32) (SA : Nat → Int32) (SB : Nat → Int32) (SC : Nat → Int32) (SE : Nat → Int32)  : Nat → Int32 → Int32 → Int32 → Option (Int32)
  | 0, _, _, _ => none
  | k + 1, a1, a2, a3 =>
  (if cs ≤ a3 then (some a2) else (gd_in a3 nc (bd (fX1_excess ns SA SB SC SE a1 ((CX a3.toNatClampNeg).toInt64) ((CY a3.toNatClampNeg).toInt64) ((CZ a3.toNatClampNeg).toInt64) 1) (fun v_3 => (if lg_cmp v_3 0 = 0 then (JX0_cornersOn_62 nc ns cs CX CY CZ SA SB SC SE (LX0_cornersOn_4 nc ns cs CX CY CZ SA SB SC SE k) a1 (a2 + 1) a3) else (JX0_cornersOn_62 nc ns cs CX CY CZ SA SB SC SE (LX0_cornersOn_4 nc ns cs CX CY CZ SA SB SC SE k) a1 a2 a3))))))
def fX0_cornersOn (nc : Nat) (ns : Nat) (cs : Int32) (CX : Nat → Int32) (CY : Nat → Int32) (CZ : Nat → Int32) (SA : Nat → Int32) (SB : Nat → Int32) (SC : Nat → Int32) (SE : Nat → Int32) (p1 : Int32) : Option (Int32) :=
  (LX0_cornersOn_4 nc ns cs CX CY CZ SA SB SC SE FU p1 0 0)
abbrev rX0_cornersOn : Room := { frames := 1, cells := 0, slots := 0, locals := 29 }
set_option maxHeartbeats 40000000 in
set_option maxRecDepth 100000 in
theorem kX0_cornersOn (l : Launch) (G : GT) (f0 c0 cx cy cz s0 sa sb sc se b0 al ag aw : Nat) (nc ns : Nat) (fl : Int32) (mo : Int32) (og : Option Nat) (cs : Int32) (CX : Nat → Int32) (CY : Nat → Int32) (CZ : Nat → Int32) (ss : Int32) (SA : Nat → Int32) (SB : Nat → Int32) (SC : Nat → Int32) (SE : Nat → Int32) (p1 : Int32) (res : Int32) (hF : fX0_cornersOn nc ns cs CX CY CZ SA SB SC SE p1 = some res) : Met l yX0_cornersOn wsX0_cornersOn rX0_cornersOn (va_Pc [.ref f0, .int p1] (pR G (wBdC G f0 c0 cx cy cz s0 sa sb sc se b0 al ag aw nc ns fl mo og cs CX CY CZ ss SA SB SC SE))) (vp_Si (fun r => r = res)) 0 0 (fun _ => False) := by
  refine Met.ofW (cc := cX0_cornersOn) (maxL := 4) (ret := (some .int)) (by decide) rfl ?_
  intro p e s m args below meth c s₁ B hml hv
  obtain ⟨rfl, hP, hK⟩ := hv
  have hx := B.exec
  have hb := B.bytes
  have hr := B.returns
  have hts := atoms_spec (ws := wsX0_cornersOn) B.pre
  have hown : s.vm.findClass RX0 = some m.cls := findClass_of_methodNamed B.named
  have hlocks := B.notSynchronized
  have hin0 : ∀ w ∈ u_ws RX0 TX0 9, w ∈ wsX0_cornersOn := by decide +kernel
  have hfl31 := hts (.fieldLink RX0 31 "SwellBodies$Body" "corners" "LSwellBodies$Points;") (by decide +kernel)
  have hin4 : ∀ w ∈ u_ws RX4 TX4 4, w ∈ wsX0_cornersOn := by decide +kernel
  have hfl48 := hts (.fieldLink RX0 48 "SwellBodies$Points" "size" "I") (by decide +kernel)
  have hfl35 := hts (.fieldLink RX0 35 "SwellBodies$Body" "sides" "LSwellBodies$Conditions;") (by decide +kernel)
  have hfl66 := hts (.fieldLink RX0 66 "SwellBodies$Points" "x" "[I") (by decide +kernel)
  have hfl69 := hts (.fieldLink RX0 69 "SwellBodies$Points" "y" "[I") (by decide +kernel)
  have hfl72 := hts (.fieldLink RX0 72 "SwellBodies$Points" "z" "[I") (by decide +kernel)
  have hl := lv_entry ([.ref f0, .int p1]) (n := 4) (Nat.le_of_ble_eq_true rfl)
  rw [lg_entry_eq]
  generalize (lg_sl ([.ref f0, .int p1]) ++ List.replicate (4 - (lg_sl ([.ref f0, .int p1])).length) Slot.unset).toArray = ls at hl ⊢
  have hl : lv_has ls 4 [(0, .ref f0), (1, .int p1)] := hl
  have hJ62 : ∀ (k4 : Int32 → Int32 → Int32 → Option (Int32)), (∀ (a1 : Int32) (a2 : Int32) (a3 : Int32) (ls : Array Slot), k4 a1 a2 a3 = some res → lv_has ls 4 [(0, .ref f0), (1, .int a1), (2, .int a2), (3, .int a3)] → W p l e (headSpec wsX0_cornersOn rX0_cornersOn).room s m ([.ref f0, .int p1] : List Value).toArray below meth c s.heap [] 0 0 (MQ below (vp_Si (fun r => r = res)) ([.ref f0, .int p1] : List Value).toArray s 0 0 (fun _ => False)) (F0 m 4 ls [])) → ∀ (a1 : Int32) (a2 : Int32) (a3 : Int32) (ls : Array Slot), JX0_cornersOn_62 nc ns cs CX CY CZ SA SB SC SE k4 a1 a2 a3 = some res → lv_has ls 4 [(0, .ref f0), (1, .int a1), (2, .int a2), (3, .int a3)] → W p l e (headSpec wsX0_cornersOn rX0_cornersOn).room s m ([.ref f0, .int p1] : List Value).toArray below meth c s.heap [] 0 0 (MQ below (vp_Si (fun r => r = res)) ([.ref f0, .int p1] : List Value).toArray s 0 0 (fun _ => False)) (F0 m 62 ls []) := by
    intro k4 hk4
    intro a1 a2 a3 ls hF hl
    unfold JX0_cornersOn_62 at hF
    refine lv_iinc (v := a3 + 1) (lv' := [(3, .int (a3 + 1)), (0, .ref f0), (1, .int a1), (2, .int a2)]) hx hb dX0_cornersOn_62 hl (k := 3) rfl rfl (by decide) rfl (fun ls hl => ?_)
    refine lv_goto (tgt := 4) hx hb dX0_cornersOn_65 (by decide) ?_
    exact hk4 a1 a2 (a3 + 1) _ hF (lv_sub hl [1, 2, 3, 0] rfl)
  have hL4 : ∀ (k : Nat), ∀ (a1 : Int32) (a2 : Int32) (a3 : Int32) (ls : Array Slot), LX0_cornersOn_4 nc ns cs CX CY CZ SA SB SC SE k a1 a2 a3 = some res → lv_has ls 4 [(0, .ref f0), (1, .int a1), (2, .int a2), (3, .int a3)] → W p l e (headSpec wsX0_cornersOn rX0_cornersOn).room s m ([.ref f0, .int p1] : List Value).toArray below meth c s.heap [] 0 0 (MQ below (vp_Si (fun r => r = res)) ([.ref f0, .int p1] : List Value).toArray s 0 0 (fun _ => False)) (F0 m 4 ls []) := by
    intro k
    induction k with
    | zero =>
      intro a1 a2 a3 ls hF hl
      rw [LX0_cornersOn_4] at hF
      cases hF
    | succ k ih =>
      intro a1 a2 a3 ls hF hl
      rw [LX0_cornersOn_4] at hF
      refine lv_iload_n hx hb dX0_cornersOn_4 rfl (lv_at hl 3 rfl) ?_
      refine lv_aload_n hx hb dX0_cornersOn_5 rfl (lv_at hl 0 rfl) ?_
      refine va_get (ci := 0) (v := .ref c0) (C := RX0) (T := TX0) (N := 9) hx hb hts hin0 hown hK hP 0 rfl rfl 2 (by decide) hfl31 (fun _ h9 => h9) rfl dX0_cornersOn_6 ?_
      refine va_get (ci := 4) (v := .int cs) (C := RX4) (T := TX4) (N := 4) hx hb hts hin4 hown hK hP 1 rfl rfl 3 (by decide) hfl48 (fun _ h9 => h9) rfl dX0_cornersOn_9 ?_
      refine lv_icmp_ge (tgt := 68) hx hb dX0_cornersOn_12 (by decide) (fun c_1 => ?_) (fun c_1 => ?_)
      · replace hF := it_p c_1 hF
        refine lv_iload_n hx hb dX0_cornersOn_68 rfl (lv_at hl 2 rfl) ?_
        exact W.iret (v := a2) hx hb hr  (fun t ht hW => ⟨a2, rfl, (so_e hF), ht⟩) (fun q h => absurd h List.not_mem_nil) dX0_cornersOn_69
      · replace hF := it_n c_1 hF
        refine lv_aload_n hx hb dX0_cornersOn_15 rfl (lv_at hl 0 rfl) ?_
        refine va_get (ci := 0) (v := .ref s0) (C := RX0) (T := TX0) (N := 9) hx hb hts hin0 hown hK hP 0 rfl rfl 3 (by decide) hfl35 (fun _ h9 => h9) rfl dX0_cornersOn_16 ?_
        refine lv_iload_n hx hb dX0_cornersOn_19 rfl (lv_at hl 1 rfl) ?_
        refine lv_aload_n hx hb dX0_cornersOn_20 rfl (lv_at hl 0 rfl) ?_
        refine va_get (ci := 0) (v := .ref c0) (C := RX0) (T := TX0) (N := 9) hx hb hts hin0 hown hK hP 0 rfl rfl 2 (by decide) hfl31 (fun _ h9 => h9) rfl dX0_cornersOn_21 ?_
        refine va_get (ci := 4) (v := .ref cx) (C := RX4) (T := TX4) (N := 4) hx hb hts hin4 hown hK hP 1 rfl rfl 0 (by decide) hfl66 (fun _ h9 => h9) rfl dX0_cornersOn_24 ?_
        refine lv_iload_n hx hb dX0_cornersOn_27 rfl (lv_at hl 3 rfl) ?_
        obtain ⟨hi_2, hF⟩ := gd_in_s hF
        refine va_iald hx hb hK hP 2 0 rfl rfl hi_2 dX0_cornersOn_28 ?_
        refine lv_i2l hx hb dX0_cornersOn_29 rfl ?_
        refine lv_aload_n hx hb dX0_cornersOn_30 rfl (lv_at hl 0 rfl) ?_
        refine va_get (ci := 0) (v := .ref c0) (C := RX0) (T := TX0) (N := 9) hx hb hts hin0 hown hK hP 0 rfl rfl 2 (by decide) hfl31 (fun _ h9 => h9) rfl dX0_cornersOn_31 ?_
        refine va_get (ci := 4) (v := .ref cy) (C := RX4) (T := TX4) (N := 4) hx hb hts hin4 hown hK hP 1 rfl rfl 1 (by decide) hfl69 (fun _ h9 => h9) rfl dX0_cornersOn_34 ?_
        refine lv_iload_n hx hb dX0_cornersOn_37 rfl (lv_at hl 3 rfl) ?_
        refine va_iald hx hb hK hP 3 0 rfl rfl hi_2 dX0_cornersOn_38 ?_
        refine lv_i2l hx hb dX0_cornersOn_39 rfl ?_
        refine lv_aload_n hx hb dX0_cornersOn_40 rfl (lv_at hl 0 rfl) ?_
        refine va_get (ci := 0) (v := .ref c0) (C := RX0) (T := TX0) (N := 9) hx hb hts hin0 hown hK hP 0 rfl rfl 2 (by decide) hfl31 (fun _ h9 => h9) rfl dX0_cornersOn_41 ?_
        refine va_get (ci := 4) (v := .ref cz) (C := RX4) (T := TX4) (N := 4) hx hb hts hin4 hown hK hP 1 rfl rfl 2 (by decide) hfl72 (fun _ h9 => h9) rfl dX0_cornersOn_44 ?_
        refine lv_iload_n hx hb dX0_cornersOn_47 rfl (lv_at hl 3 rfl) ?_
        refine va_iald hx hb hK hP 4 0 rfl rfl hi_2 dX0_cornersOn_48 ?_
        refine lv_i2l hx hb dX0_cornersOn_49 rfl ?_
        refine lv_lconst (v := 1) hx hb dX0_cornersOn_50 (by decide) ?_
        obtain ⟨v_3, hv_3, hF⟩ := bd_s hF
        refine ro_le (va_runV (As := [.int a1, .long ((CX a3.toNatClampNeg).toInt64), .long ((CY a3.toNatClampNeg).toInt64), .long ((CZ a3.toNatClampNeg).toInt64), .long 1]) (rest := []) ⟨hx, hb, hml, hown, hts⟩ (kX1_excess l G s0 sa sb sc se ns ss SA SB SC SE a1 ((CX a3.toNatClampNeg).toInt64) ((CY a3.toNatClampNeg).toInt64) ((CZ a3.toNatClampNeg).toInt64) 1 v_3 hv_3) (cwV 5 hts gX0_cornersOn_X1_excess rfl rfl rfl (by decide +kernel) ⟨Nat.le_of_ble_eq_true rfl, Nat.le_of_ble_eq_true rfl⟩) (pvR (q0 := 0) 1 hK (hP.sub (ws' := (wCnd G s0 sa sb sc se ns ss SA SB SC SE)) [5, 6, 7, 8, 9] rfl) rfl rfl) rfl rfl hl.1 rfl (lv_room (Nat.le_of_ble_eq_true rfl)) dX0_cornersOn_51 ⟨Nat.le_of_ble_eq_true rfl, Nat.le_of_ble_eq_true rfl⟩) ?_
        refine lv_lconst (v := 0) hx hb dX0_cornersOn_54 (by decide) ?_
        refine W.lcmp hx hb dX0_cornersOn_55 ?_
        refine lv_if_ne (tgt := 62) hx hb dX0_cornersOn_56 (by decide) (fun c_4 => ?_) (fun c_4 => ?_)
        · replace hF := it_n c_4 hF
          exact hJ62 _ ih a1 a2 a3 _ hF (lv_sub hl [0, 1, 2, 3] rfl)
        · replace hF := it_p c_4 hF
          refine lv_iinc (v := a2 + 1) (lv' := [(2, .int (a2 + 1)), (0, .ref f0), (1, .int a1), (3, .int a3)]) hx hb dX0_cornersOn_59 hl (k := 2) rfl rfl (by decide) rfl (fun ls hl => ?_)
          exact hJ62 _ ih a1 (a2 + 1) a3 _ hF (lv_sub hl [1, 2, 0, 3] rfl)
  unfold fX0_cornersOn at hF
  refine lv_iconst (v := 0) hx hb dX0_cornersOn_0 (by decide) ?_
  refine lv_istore_n (lv' := [(2, .int 0), (0, .ref f0), (1, .int p1)]) hx hb dX0_cornersOn_1 rfl hl (by decide) rfl (fun ls hl => ?_)
  refine lv_iconst (v := 0) hx hb dX0_cornersOn_2 (by decide) ?_
  refine lv_istore_n (lv' := [(3, .int 0), (2, .int 0), (0, .ref f0), (1, .int p1)]) hx hb dX0_cornersOn_3 rfl hl (by decide) rfl (fun ls hl => ?_)
  exact hL4 FU p1 0 0 _ hF (lv_sub hl [2, 3, 1, 0] rfl)
def JX0_placeOf_103 (ns : Nat) (nb : Nat) (ss : Int32) (SA : Nat → Int32) (SB : Nat → Int32) (SC : Nat → Int32) (SE : Nat → Int32) (bs : Int32) (BA : Nat → Int32) (BB : Nat → Int32) (BC : Nat → Int32) (BD : Nat → Int32) (k52 : Int32 → Int32 → Int32 → Int32 → Int32 → Int32 → Option (Int32)) (a1 : Int32) (a2 : Int32) (a3 : Int32) (a4 : Int32) (a5 : Int32) (a6 : Int32) : Option (Int32) :=
  (k52 a1 a2 a3 a4 a5 (a6 + 1))
def LX0_placeOf_52 (ns : Nat) (nb : Nat) (ss : Int32) (SA : Nat → Int32) (SB : Nat → Int32) (SC : Nat → Int32) (SE : Nat → Int32) (bs : Int32) (BA : Nat → Int32) (BB : Nat → Int32) (BC : Nat → Int32) (BD : Nat → Int32)  : Nat → Int32 → Int32 → Int32 → Int32 → Int32 → Int32 → Option (Int32)
  | 0, _, _, _, _, _, _ => none
  | k + 1, a1, a2, a3, a4, a5, a6 =>
  (if ss ≤ a6 then (some a5) else (bd (fX1_excess ns SA SB SC SE a6 a1.toInt64 a2.toInt64 a3.toInt64 a4.toInt64) (fun v_3 => (if lg_cmp v_3 0 ≤ 0 then (if lg_cmp v_3 0 = 0 then (JX0_placeOf_103 ns nb ss SA SB SC SE bs BA BB BC BD (LX0_placeOf_52 ns nb ss SA SB SC SE bs BA BB BC BD k) a1 a2 a3 a4 1 a6) else (JX0_placeOf_103 ns nb ss SA SB SC SE bs BA BB BC BD (LX0_placeOf_52 ns nb ss SA SB SC SE bs BA BB BC BD k) a1 a2 a3 a4 a5 a6)) else (some 0)))))
def LX0_placeOf_3 (ns : Nat) (nb : Nat) (ss : Int32) (SA : Nat → Int32) (SB : Nat → Int32) (SC : Nat → Int32) (SE : Nat → Int32) (bs : Int32) (BA : Nat → Int32) (BB : Nat → Int32) (BC : Nat → Int32) (BD : Nat → Int32)  : Nat → Int32 → Int32 → Int32 → Int32 → Int32 → Option (Int32)
  | 0, _, _, _, _, _ => none
  | k + 1, a1, a2, a3, a4, a5 =>
  (if bs ≤ a5 then (LX0_placeOf_52 ns nb ss SA SB SC SE bs BA BB BC BD FU a1 a2 a3 a4 2 0) else (bd (fX1_excess nb BA BB BC BD a5 a1.toInt64 a2.toInt64 a3.toInt64 a4.toInt64) (fun v_6 => (if lg_cmp v_6 0 = 0 then (LX0_placeOf_3 ns nb ss SA SB SC SE bs BA BB BC BD k a1 a2 a3 a4 (a5 + 1)) else (some 0)))))
def fX0_placeOf (ns : Nat) (nb : Nat) (ss : Int32) (SA : Nat → Int32) (SB : Nat → Int32) (SC : Nat → Int32) (SE : Nat → Int32) (bs : Int32) (BA : Nat → Int32) (BB : Nat → Int32) (BC : Nat → Int32) (BD : Nat → Int32) (p1 : Int32) (p2 : Int32) (p3 : Int32) (p4 : Int32) : Option (Int32) :=
  (LX0_placeOf_3 ns nb ss SA SB SC SE bs BA BB BC BD FU p1 p2 p3 p4 0)
abbrev rX0_placeOf : Room := { frames := 1, cells := 0, slots := 0, locals := 29 }
set_option maxHeartbeats 40000000 in
set_option maxRecDepth 100000 in
theorem kX0_placeOf (l : Launch) (G : GT) (f0 s0 sa sb sc se b0 ba bb bc be c0 al ag aw : Nat) (ns nb : Nat) (fl : Int32) (mo : Int32) (og : Option Nat) (ss : Int32) (SA : Nat → Int32) (SB : Nat → Int32) (SC : Nat → Int32) (SE : Nat → Int32) (bs : Int32) (BA : Nat → Int32) (BB : Nat → Int32) (BC : Nat → Int32) (BD : Nat → Int32) (p1 : Int32) (p2 : Int32) (p3 : Int32) (p4 : Int32) (res : Int32) (hF : fX0_placeOf ns nb ss SA SB SC SE bs BA BB BC BD p1 p2 p3 p4 = some res) : Met l yX0_placeOf wsX0_placeOf rX0_placeOf (va_Pc [.ref f0, .int p1, .int p2, .int p3, .int p4] (pR G (wBdS G f0 s0 sa sb sc se b0 ba bb bc be c0 al ag aw ns nb fl mo og ss SA SB SC SE bs BA BB BC BD))) (vp_Si (fun r => r = res)) 0 0 (fun _ => False) := by
  refine Met.ofW (cc := cX0_placeOf) (maxL := 9) (ret := (some .int)) (by decide) rfl ?_
  intro p e s m args below meth c s₁ B hml hv
  obtain ⟨rfl, hP, hK⟩ := hv
  have hx := B.exec
  have hb := B.bytes
  have hr := B.returns
  have hts := atoms_spec (ws := wsX0_placeOf) B.pre
  have hown : s.vm.findClass RX0 = some m.cls := findClass_of_methodNamed B.named
  have hlocks := B.notSynchronized
  have hin0 : ∀ w ∈ u_ws RX0 TX0 9, w ∈ wsX0_placeOf := by decide +kernel
  have hfl39 := hts (.fieldLink RX0 39 "SwellBodies$Body" "bonds" "LSwellBodies$Conditions;") (by decide +kernel)
  have hin1 : ∀ w ∈ u_ws RX1 TX1 5, w ∈ wsX0_placeOf := by decide +kernel
  have hfl81 := hts (.fieldLink RX0 81 "SwellBodies$Conditions" "size" "I") (by decide +kernel)
  have hfl35 := hts (.fieldLink RX0 35 "SwellBodies$Body" "sides" "LSwellBodies$Conditions;") (by decide +kernel)
  have hl := lv_entry ([.ref f0, .int p1, .int p2, .int p3, .int p4]) (n := 9) (Nat.le_of_ble_eq_true rfl)
  rw [lg_entry_eq]
  generalize (lg_sl ([.ref f0, .int p1, .int p2, .int p3, .int p4]) ++ List.replicate (9 - (lg_sl ([.ref f0, .int p1, .int p2, .int p3, .int p4])).length) Slot.unset).toArray = ls at hl ⊢
  have hl : lv_has ls 9 [(0, .ref f0), (1, .int p1), (2, .int p2), (3, .int p3), (4, .int p4)] := hl
  have hJ103 : ∀ (k52 : Int32 → Int32 → Int32 → Int32 → Int32 → Int32 → Option (Int32)), (∀ (a1 : Int32) (a2 : Int32) (a3 : Int32) (a4 : Int32) (a5 : Int32) (a6 : Int32) (ls : Array Slot), k52 a1 a2 a3 a4 a5 a6 = some res → lv_has ls 9 [(0, .ref f0), (1, .int a1), (2, .int a2), (3, .int a3), (4, .int a4), (5, .int a5), (6, .int a6)] → W p l e (headSpec wsX0_placeOf rX0_placeOf).room s m ([.ref f0, .int p1, .int p2, .int p3, .int p4] : List Value).toArray below meth c s.heap [] 0 0 (MQ below (vp_Si (fun r => r = res)) ([.ref f0, .int p1, .int p2, .int p3, .int p4] : List Value).toArray s 0 0 (fun _ => False)) (F0 m 52 ls [])) → ∀ (a1 : Int32) (a2 : Int32) (a3 : Int32) (a4 : Int32) (a5 : Int32) (a6 : Int32) (ls : Array Slot), JX0_placeOf_103 ns nb ss SA SB SC SE bs BA BB BC BD k52 a1 a2 a3 a4 a5 a6 = some res → lv_has ls 9 [(0, .ref f0), (1, .int a1), (2, .int a2), (3, .int a3), (4, .int a4), (5, .int a5), (6, .int a6)] → W p l e (headSpec wsX0_placeOf rX0_placeOf).room s m ([.ref f0, .int p1, .int p2, .int p3, .int p4] : List Value).toArray below meth c s.heap [] 0 0 (MQ below (vp_Si (fun r => r = res)) ([.ref f0, .int p1, .int p2, .int p3, .int p4] : List Value).toArray s 0 0 (fun _ => False)) (F0 m 103 ls []) := by
    intro k52 hk52
    intro a1 a2 a3 a4 a5 a6 ls hF hl
    unfold JX0_placeOf_103 at hF
    refine lv_iinc (v := a6 + 1) (lv' := [(6, .int (a6 + 1)), (0, .ref f0), (1, .int a1), (2, .int a2), (3, .int a3), (4, .int a4), (5, .int a5)]) hx hb dX0_placeOf_103 hl (k := 6) rfl rfl (by decide) rfl (fun ls hl => ?_)
    refine lv_goto (tgt := 52) hx hb dX0_placeOf_106 (by decide) ?_
    exact hk52 a1 a2 a3 a4 a5 (a6 + 1) _ hF (lv_sub hl [1, 2, 3, 4, 5, 6, 0] rfl)
  have hL52 : ∀ (k : Nat), ∀ (a1 : Int32) (a2 : Int32) (a3 : Int32) (a4 : Int32) (a5 : Int32) (a6 : Int32) (ls : Array Slot), LX0_placeOf_52 ns nb ss SA SB SC SE bs BA BB BC BD k a1 a2 a3 a4 a5 a6 = some res → lv_has ls 9 [(0, .ref f0), (1, .int a1), (2, .int a2), (3, .int a3), (4, .int a4), (5, .int a5), (6, .int a6)] → W p l e (headSpec wsX0_placeOf rX0_placeOf).room s m ([.ref f0, .int p1, .int p2, .int p3, .int p4] : List Value).toArray below meth c s.heap [] 0 0 (MQ below (vp_Si (fun r => r = res)) ([.ref f0, .int p1, .int p2, .int p3, .int p4] : List Value).toArray s 0 0 (fun _ => False)) (F0 m 52 ls []) := by
    intro k
    induction k with
    | zero =>
      intro a1 a2 a3 a4 a5 a6 ls hF hl
      rw [LX0_placeOf_52] at hF
      cases hF
    | succ k ih =>
      intro a1 a2 a3 a4 a5 a6 ls hF hl
      rw [LX0_placeOf_52] at hF
      refine lv_iload hx hb dX0_placeOf_52 (lv_at hl 6 rfl) ?_
      refine lv_aload_n hx hb dX0_placeOf_54 rfl (lv_at hl 0 rfl) ?_
      refine va_get (ci := 0) (v := .ref s0) (C := RX0) (T := TX0) (N := 9) hx hb hts hin0 hown hK hP 0 rfl rfl 3 (by decide) hfl35 (fun _ h9 => h9) rfl dX0_placeOf_55 ?_
      refine va_get (ci := 1) (v := .int ss) (C := RX1) (T := TX1) (N := 5) hx hb hts hin1 hown hK hP 1 rfl rfl 4 (by decide) hfl81 (fun _ h9 => h9) rfl dX0_placeOf_58 ?_
      refine lv_icmp_ge (tgt := 109) hx hb dX0_placeOf_61 (by decide) (fun c_2 => ?_) (fun c_2 => ?_)
      · replace hF := it_p c_2 hF
        refine lv_iload hx hb dX0_placeOf_109 (lv_at hl 5 rfl) ?_
        exact W.iret (v := a5) hx hb hr  (fun t ht hW => ⟨a5, rfl, (so_e hF), ht⟩) (fun q h => absurd h List.not_mem_nil) dX0_placeOf_111
      · replace hF := it_n c_2 hF
        refine lv_aload_n hx hb dX0_placeOf_64 rfl (lv_at hl 0 rfl) ?_
        refine va_get (ci := 0) (v := .ref s0) (C := RX0) (T := TX0) (N := 9) hx hb hts hin0 hown hK hP 0 rfl rfl 3 (by decide) hfl35 (fun _ h9 => h9) rfl dX0_placeOf_65 ?_
        refine lv_iload hx hb dX0_placeOf_68 (lv_at hl 6 rfl) ?_
        refine lv_iload_n hx hb dX0_placeOf_70 rfl (lv_at hl 1 rfl) ?_
        refine lv_i2l hx hb dX0_placeOf_71 rfl ?_
        refine lv_iload_n hx hb dX0_placeOf_72 rfl (lv_at hl 2 rfl) ?_
        refine lv_i2l hx hb dX0_placeOf_73 rfl ?_
        refine lv_iload_n hx hb dX0_placeOf_74 rfl (lv_at hl 3 rfl) ?_
        refine lv_i2l hx hb dX0_placeOf_75 rfl ?_
        refine lv_iload hx hb dX0_placeOf_76 (lv_at hl 4 rfl) ?_
        refine lv_i2l hx hb dX0_placeOf_78 rfl ?_
        obtain ⟨v_3, hv_3, hF⟩ := bd_s hF
        refine ro_le (va_runV (As := [.int a6, .long a1.toInt64, .long a2.toInt64, .long a3.toInt64, .long a4.toInt64]) (rest := []) ⟨hx, hb, hml, hown, hts⟩ (kX1_excess l G s0 sa sb sc se ns ss SA SB SC SE a6 a1.toInt64 a2.toInt64 a3.toInt64 a4.toInt64 v_3 hv_3) (cwV 5 hts gX0_placeOf_X1_excess rfl rfl rfl (by decide +kernel) ⟨Nat.le_of_ble_eq_true rfl, Nat.le_of_ble_eq_true rfl⟩) (pvR (q0 := 0) 1 hK (hP.sub (ws' := (wCnd G s0 sa sb sc se ns ss SA SB SC SE)) [1, 2, 3, 4, 5] rfl) rfl rfl) rfl rfl hl.1 rfl (lv_room (Nat.le_of_ble_eq_true rfl)) dX0_placeOf_79 ⟨Nat.le_of_ble_eq_true rfl, Nat.le_of_ble_eq_true rfl⟩) ?_
        refine lv_lstore (lv' := [(7, .long v_3), (0, .ref f0), (1, .int a1), (2, .int a2), (3, .int a3), (4, .int a4), (5, .int a5), (6, .int a6)]) hx hb dX0_placeOf_82 hl (by decide) rfl (fun ls hl => ?_)
        refine lv_lload hx hb dX0_placeOf_84 (lv_at hl 0 rfl) ?_
        refine lv_lconst (v := 0) hx hb dX0_placeOf_86 (by decide) ?_
        refine W.lcmp hx hb dX0_placeOf_87 ?_
        refine lv_if_le (tgt := 93) hx hb dX0_placeOf_88 (by decide) (fun c_4 => ?_) (fun c_4 => ?_)
        · replace hF := it_p c_4 hF
          refine lv_lload hx hb dX0_placeOf_93 (lv_at hl 0 rfl) ?_
          refine lv_lconst (v := 0) hx hb dX0_placeOf_95 (by decide) ?_
          refine W.lcmp hx hb dX0_placeOf_96 ?_
          refine lv_if_ne (tgt := 103) hx hb dX0_placeOf_97 (by decide) (fun c_5 => ?_) (fun c_5 => ?_)
          · replace hF := it_n c_5 hF
            exact hJ103 _ ih a1 a2 a3 a4 a5 a6 _ hF (lv_sub hl [1, 2, 3, 4, 5, 6, 7] rfl)
          · replace hF := it_p c_5 hF
            refine lv_iconst (v := 1) hx hb dX0_placeOf_100 (by decide) ?_
            refine lv_istore (lv' := [(5, .int 1), (7, .long v_3), (0, .ref f0), (1, .int a1), (2, .int a2), (3, .int a3), (4, .int a4), (6, .int a6)]) hx hb dX0_placeOf_101 hl (by decide) rfl (fun ls hl => ?_)
            exact hJ103 _ ih a1 a2 a3 a4 1 a6 _ hF (lv_sub hl [2, 3, 4, 5, 6, 0, 7] rfl)
        · replace hF := it_n c_4 hF
          refine lv_iconst (v := 0) hx hb dX0_placeOf_91 (by decide) ?_
          exact W.iret (v := 0) hx hb hr  (fun t ht hW => ⟨0, rfl, (so_e hF), ht⟩) (fun q h => absurd h List.not_mem_nil) dX0_placeOf_92
  have hL3 : ∀ (k : Nat), ∀ (a1 : Int32) (a2 : Int32) (a3 : Int32) (a4 : Int32) (a5 : Int32) (ls : Array Slot), LX0_placeOf_3 ns nb ss SA SB SC SE bs BA BB BC BD k a1 a2 a3 a4 a5 = some res → lv_has ls 9 [(0, .ref f0), (1, .int a1), (2, .int a2), (3, .int a3), (4, .int a4), (5, .int a5)] → W p l e (headSpec wsX0_placeOf rX0_placeOf).room s m ([.ref f0, .int p1, .int p2, .int p3, .int p4] : List Value).toArray below meth c s.heap [] 0 0 (MQ below (vp_Si (fun r => r = res)) ([.ref f0, .int p1, .int p2, .int p3, .int p4] : List Value).toArray s 0 0 (fun _ => False)) (F0 m 3 ls []) := by
    intro k
    induction k with
    | zero =>
      intro a1 a2 a3 a4 a5 ls hF hl
      rw [LX0_placeOf_3] at hF
      cases hF
    | succ k ih =>
      intro a1 a2 a3 a4 a5 ls hF hl
      rw [LX0_placeOf_3] at hF
      refine lv_iload hx hb dX0_placeOf_3 (lv_at hl 5 rfl) ?_
      refine lv_aload_n hx hb dX0_placeOf_5 rfl (lv_at hl 0 rfl) ?_
      refine va_get (ci := 0) (v := .ref b0) (C := RX0) (T := TX0) (N := 9) hx hb hts hin0 hown hK hP 0 rfl rfl 4 (by decide) hfl39 (fun _ h9 => h9) rfl dX0_placeOf_6 ?_
      refine va_get (ci := 1) (v := .int bs) (C := RX1) (T := TX1) (N := 5) hx hb hts hin1 hown hK hP 6 rfl rfl 4 (by decide) hfl81 (fun _ h9 => h9) rfl dX0_placeOf_9 ?_
      refine lv_icmp_ge (tgt := 46) hx hb dX0_placeOf_12 (by decide) (fun c_1 => ?_) (fun c_1 => ?_)
      · replace hF := it_p c_1 hF
        refine lv_iconst (v := 2) hx hb dX0_placeOf_46 (by decide) ?_
        refine lv_istore (lv' := [(5, .int 2), (0, .ref f0), (1, .int a1), (2, .int a2), (3, .int a3), (4, .int a4)]) hx hb dX0_placeOf_47 hl (by decide) rfl (fun ls hl => ?_)
        refine lv_iconst (v := 0) hx hb dX0_placeOf_49 (by decide) ?_
        refine lv_istore (lv' := [(6, .int 0), (5, .int 2), (0, .ref f0), (1, .int a1), (2, .int a2), (3, .int a3), (4, .int a4)]) hx hb dX0_placeOf_50 hl (by decide) rfl (fun ls hl => ?_)
        exact hL52 FU a1 a2 a3 a4 2 0 _ hF (lv_sub hl [2, 3, 4, 5, 6, 1, 0] rfl)
      · replace hF := it_n c_1 hF
        refine lv_aload_n hx hb dX0_placeOf_15 rfl (lv_at hl 0 rfl) ?_
        refine va_get (ci := 0) (v := .ref b0) (C := RX0) (T := TX0) (N := 9) hx hb hts hin0 hown hK hP 0 rfl rfl 4 (by decide) hfl39 (fun _ h9 => h9) rfl dX0_placeOf_16 ?_
        refine lv_iload hx hb dX0_placeOf_19 (lv_at hl 5 rfl) ?_
        refine lv_iload_n hx hb dX0_placeOf_21 rfl (lv_at hl 1 rfl) ?_
        refine lv_i2l hx hb dX0_placeOf_22 rfl ?_
        refine lv_iload_n hx hb dX0_placeOf_23 rfl (lv_at hl 2 rfl) ?_
        refine lv_i2l hx hb dX0_placeOf_24 rfl ?_
        refine lv_iload_n hx hb dX0_placeOf_25 rfl (lv_at hl 3 rfl) ?_
        refine lv_i2l hx hb dX0_placeOf_26 rfl ?_
        refine lv_iload hx hb dX0_placeOf_27 (lv_at hl 4 rfl) ?_
        refine lv_i2l hx hb dX0_placeOf_29 rfl ?_
        obtain ⟨v_6, hv_6, hF⟩ := bd_s hF
        refine ro_le (va_runV (As := [.int a5, .long a1.toInt64, .long a2.toInt64, .long a3.toInt64, .long a4.toInt64]) (rest := []) ⟨hx, hb, hml, hown, hts⟩ (kX1_excess l G b0 ba bb bc be nb bs BA BB BC BD a5 a1.toInt64 a2.toInt64 a3.toInt64 a4.toInt64 v_6 hv_6) (cwV 5 hts gX0_placeOf_X1_excess rfl rfl rfl (by decide +kernel) ⟨Nat.le_of_ble_eq_true rfl, Nat.le_of_ble_eq_true rfl⟩) (pvR (q0 := 0) 1 hK (hP.sub (ws' := (wCnd G b0 ba bb bc be nb bs BA BB BC BD)) [6, 7, 8, 9, 10] rfl) rfl rfl) rfl rfl hl.1 rfl (lv_room (Nat.le_of_ble_eq_true rfl)) dX0_placeOf_30 ⟨Nat.le_of_ble_eq_true rfl, Nat.le_of_ble_eq_true rfl⟩) ?_
        refine lv_lconst (v := 0) hx hb dX0_placeOf_33 (by decide) ?_
        refine W.lcmp hx hb dX0_placeOf_34 ?_
        refine lv_if_eq (tgt := 40) hx hb dX0_placeOf_35 (by decide) (fun c_7 => ?_) (fun c_7 => ?_)
        · replace hF := it_p c_7 hF
          refine lv_iinc (v := a5 + 1) (lv' := [(5, .int (a5 + 1)), (0, .ref f0), (1, .int a1), (2, .int a2), (3, .int a3), (4, .int a4)]) hx hb dX0_placeOf_40 hl (k := 5) rfl rfl (by decide) rfl (fun ls hl => ?_)
          refine lv_goto (tgt := 3) hx hb dX0_placeOf_43 (by decide) ?_
          exact ih a1 a2 a3 a4 (a5 + 1) _ hF (lv_sub hl [1, 2, 3, 4, 5, 0] rfl)
        · replace hF := it_n c_7 hF
          refine lv_iconst (v := 0) hx hb dX0_placeOf_38 (by decide) ?_
          exact W.iret (v := 0) hx hb hr  (fun t ht hW => ⟨0, rfl, (so_e hF), ht⟩) (fun q h => absurd h List.not_mem_nil) dX0_placeOf_39
  unfold fX0_placeOf at hF
  refine lv_iconst (v := 0) hx hb dX0_placeOf_0 (by decide) ?_
  refine lv_istore (lv' := [(5, .int 0), (0, .ref f0), (1, .int p1), (2, .int p2), (3, .int p3), (4, .int p4)]) hx hb dX0_placeOf_1 hl (by decide) rfl (fun ls hl => ?_)
  exact hL3 FU p1 p2 p3 p4 0 _ hF (lv_sub hl [1, 2, 3, 4, 5, 0] rfl)
def LX0_holds_2 (ns : Nat) (nb : Nat) (n2 : Nat) (ss : Int32) (SA : Nat → Int32) (SB : Nat → Int32) (SC : Nat → Int32) (SE : Nat → Int32) (bs : Int32) (BA : Nat → Int32) (BB : Nat → Int32) (BC : Nat → Int32) (BD : Nat → Int32) (sz1 : Int32) (U : Nat → Int32) (V : Nat → Int32) (T : Nat → Int32)  : Nat → Int32 → Option (Int32)
  | 0, _ => none
  | k + 1, a2 =>
  (if sz1 ≤ a2 then (some 1) else (gd_in a2 n2 (bd (fX0_placeOf ns nb ss SA SB SC SE bs BA BB BC BD (U a2.toNatClampNeg) (V a2.toNatClampNeg) (T a2.toNatClampNeg) 1) (fun v_3 => (if v_3 = 0 then (some 0) else (LX0_holds_2 ns nb n2 ss SA SB SC SE bs BA BB BC BD sz1 U V T k (a2 + 1)))))))
def fX0_holds (ns : Nat) (nb : Nat) (n2 : Nat) (ss : Int32) (SA : Nat → Int32) (SB : Nat → Int32) (SC : Nat → Int32) (SE : Nat → Int32) (bs : Int32) (BA : Nat → Int32) (BB : Nat → Int32) (BC : Nat → Int32) (BD : Nat → Int32) (sz1 : Int32) (U : Nat → Int32) (V : Nat → Int32) (T : Nat → Int32) : Option (Int32) :=
  (LX0_holds_2 ns nb n2 ss SA SB SC SE bs BA BB BC BD sz1 U V T FU 0)
abbrev rX0_holds : Room := { frames := 2, cells := 0, slots := 0, locals := 57 }
set_option maxHeartbeats 40000000 in
set_option maxRecDepth 100000 in
theorem kX0_holds (l : Launch) (G : GT) (f0 s0 sa sb sc se b0 ba bb bc be g0 bX bY bZ c0 al ag aw : Nat) (ns nb n2 : Nat) (fl : Int32) (mo : Int32) (og : Option Nat) (ss : Int32) (SA : Nat → Int32) (SB : Nat → Int32) (SC : Nat → Int32) (SE : Nat → Int32) (bs : Int32) (BA : Nat → Int32) (BB : Nat → Int32) (BC : Nat → Int32) (BD : Nat → Int32) (sz1 : Int32) (U : Nat → Int32) (V : Nat → Int32) (T : Nat → Int32) (res : Int32) (hF : fX0_holds ns nb n2 ss SA SB SC SE bs BA BB BC BD sz1 U V T = some res) : Met l yX0_holds wsX0_holds rX0_holds (va_Pc [.ref f0, .ref g0] (pR G (wBdH G f0 s0 sa sb sc se b0 ba bb bc be g0 bX bY bZ c0 al ag aw ns nb n2 fl mo og ss SA SB SC SE bs BA BB BC BD sz1 U V T))) (vp_Si (fun r => r = res ∧ (r = 0 ∨ r = 1))) 0 0 (fun _ => False) := by
  refine Met.ofW (cc := cX0_holds) (maxL := 3) (ret := (some .boolean)) (by decide) rfl ?_
  intro p e s m args below meth c s₁ B hml hv
  obtain ⟨rfl, hP, hK⟩ := hv
  have hx := B.exec
  have hb := B.bytes
  have hr := B.returns
  have hts := atoms_spec (ws := wsX0_holds) B.pre
  have hown : s.vm.findClass RX0 = some m.cls := findClass_of_methodNamed B.named
  have hlocks := B.notSynchronized
  have hin4 : ∀ w ∈ u_ws RX4 TX4 4, w ∈ wsX0_holds := by decide +kernel
  have hfl48 := hts (.fieldLink RX0 48 "SwellBodies$Points" "size" "I") (by decide +kernel)
  have hfl66 := hts (.fieldLink RX0 66 "SwellBodies$Points" "x" "[I") (by decide +kernel)
  have hfl69 := hts (.fieldLink RX0 69 "SwellBodies$Points" "y" "[I") (by decide +kernel)
  have hfl72 := hts (.fieldLink RX0 72 "SwellBodies$Points" "z" "[I") (by decide +kernel)
  have hl := lv_entry ([.ref f0, .ref g0]) (n := 3) (Nat.le_of_ble_eq_true rfl)
  rw [lg_entry_eq]
  generalize (lg_sl ([.ref f0, .ref g0]) ++ List.replicate (3 - (lg_sl ([.ref f0, .ref g0])).length) Slot.unset).toArray = ls at hl ⊢
  have hl : lv_has ls 3 [(0, .ref f0), (1, .ref g0)] := hl
  have hL2 : ∀ (k : Nat), ∀ (a2 : Int32) (ls : Array Slot), LX0_holds_2 ns nb n2 ss SA SB SC SE bs BA BB BC BD sz1 U V T k a2 = some res → lv_has ls 3 [(0, .ref f0), (1, .ref g0), (2, .int a2)] → W p l e (headSpec wsX0_holds rX0_holds).room s m ([.ref f0, .ref g0] : List Value).toArray below meth c s.heap [] 0 0 (MQ below (vp_Si (fun r => r = res ∧ (r = 0 ∨ r = 1))) ([.ref f0, .ref g0] : List Value).toArray s 0 0 (fun _ => False)) (F0 m 2 ls []) := by
    intro k
    induction k with
    | zero =>
      intro a2 ls hF hl
      rw [LX0_holds_2] at hF
      cases hF
    | succ k ih =>
      intro a2 ls hF hl
      rw [LX0_holds_2] at hF
      refine lv_iload_n hx hb dX0_holds_2 rfl (lv_at hl 2 rfl) ?_
      refine lv_aload_n hx hb dX0_holds_3 rfl (lv_at hl 1 rfl) ?_
      refine va_get (ci := 4) (v := .int sz1) (C := RX4) (T := TX4) (N := 4) hx hb hts hin4 hown hK hP 11 rfl rfl 3 (by decide) hfl48 (fun _ h9 => h9) rfl dX0_holds_4 ?_
      refine lv_icmp_ge (tgt := 44) hx hb dX0_holds_7 (by decide) (fun c_1 => ?_) (fun c_1 => ?_)
      · replace hF := it_p c_1 hF
        refine lv_iconst (v := 1) hx hb dX0_holds_44 (by decide) ?_
        exact W.zret (v := 1) hx hb hr rfl (fun t ht hW => ⟨1, rfl, ⟨so_e hF, (Or.inr rfl)⟩, ht⟩) (fun q h => absurd h List.not_mem_nil) dX0_holds_45
      · replace hF := it_n c_1 hF
        refine lv_aload_n hx hb dX0_holds_10 rfl (lv_at hl 0 rfl) ?_
        refine lv_aload_n hx hb dX0_holds_11 rfl (lv_at hl 1 rfl) ?_
        refine va_get (ci := 4) (v := .ref bX) (C := RX4) (T := TX4) (N := 4) hx hb hts hin4 hown hK hP 11 rfl rfl 0 (by decide) hfl66 (fun _ h9 => h9) rfl dX0_holds_12 ?_
        refine lv_iload_n hx hb dX0_holds_15 rfl (lv_at hl 2 rfl) ?_
        obtain ⟨hi_2, hF⟩ := gd_in_s hF
        refine va_iald hx hb hK hP 12 0 rfl rfl hi_2 dX0_holds_16 ?_
        refine lv_aload_n hx hb dX0_holds_17 rfl (lv_at hl 1 rfl) ?_
        refine va_get (ci := 4) (v := .ref bY) (C := RX4) (T := TX4) (N := 4) hx hb hts hin4 hown hK hP 11 rfl rfl 1 (by decide) hfl69 (fun _ h9 => h9) rfl dX0_holds_18 ?_
        refine lv_iload_n hx hb dX0_holds_21 rfl (lv_at hl 2 rfl) ?_
        refine va_iald hx hb hK hP 13 0 rfl rfl hi_2 dX0_holds_22 ?_
        refine lv_aload_n hx hb dX0_holds_23 rfl (lv_at hl 1 rfl) ?_
        refine va_get (ci := 4) (v := .ref bZ) (C := RX4) (T := TX4) (N := 4) hx hb hts hin4 hown hK hP 11 rfl rfl 2 (by decide) hfl72 (fun _ h9 => h9) rfl dX0_holds_24 ?_
        refine lv_iload_n hx hb dX0_holds_27 rfl (lv_at hl 2 rfl) ?_
        refine va_iald hx hb hK hP 14 0 rfl rfl hi_2 dX0_holds_28 ?_
        refine lv_iconst (v := 1) hx hb dX0_holds_29 (by decide) ?_
        obtain ⟨v_3, hv_3, hF⟩ := bd_s hF
        refine ro_ie (va_runV (As := [.int (U a2.toNatClampNeg), .int (V a2.toNatClampNeg), .int (T a2.toNatClampNeg), .int 1]) (rest := []) ⟨hx, hb, hml, hown, hts⟩ (kX0_placeOf l G f0 s0 sa sb sc se b0 ba bb bc be c0 al ag aw ns nb fl mo og ss SA SB SC SE bs BA BB BC BD (U a2.toNatClampNeg) (V a2.toNatClampNeg) (T a2.toNatClampNeg) 1 v_3 hv_3) (cwV 4 hts gX0_holds_X0_placeOf rfl rfl rfl (by decide +kernel) ⟨Nat.le_of_ble_eq_true rfl, Nat.le_of_ble_eq_true rfl⟩) (pvR (q0 := 0) 0 hK (hP.sub (ws' := (wBdS G f0 s0 sa sb sc se b0 ba bb bc be c0 al ag aw ns nb fl mo og ss SA SB SC SE bs BA BB BC BD)) [0, 1, 2, 3, 4, 5, 6, 7, 8, 9, 10] rfl) rfl rfl) rfl rfl hl.1 rfl (lv_room (Nat.le_of_ble_eq_true rfl)) dX0_holds_30 ⟨Nat.le_of_ble_eq_true rfl, Nat.le_of_ble_eq_true rfl⟩) ?_
        refine lv_if_ne (tgt := 38) hx hb dX0_holds_33 (by decide) (fun c_4 => ?_) (fun c_4 => ?_)
        · replace hF := it_n c_4 hF
          refine lv_iinc (v := a2 + 1) (lv' := [(2, .int (a2 + 1)), (0, .ref f0), (1, .ref g0)]) hx hb dX0_holds_38 hl (k := 2) rfl rfl (by decide) rfl (fun ls hl => ?_)
          refine lv_goto (tgt := 2) hx hb dX0_holds_41 (by decide) ?_
          exact ih (a2 + 1) _ hF (lv_sub hl [1, 2, 0] rfl)
        · replace hF := it_p c_4 hF
          refine lv_iconst (v := 0) hx hb dX0_holds_36 (by decide) ?_
          exact W.zret (v := 0) hx hb hr rfl (fun t ht hW => ⟨0, rfl, ⟨so_e hF, (Or.inl rfl)⟩, ht⟩) (fun q h => absurd h List.not_mem_nil) dX0_holds_37
  unfold fX0_holds at hF
  refine lv_iconst (v := 0) hx hb dX0_holds_0 (by decide) ?_
  refine lv_istore_n (lv' := [(2, .int 0), (0, .ref f0), (1, .ref g0)]) hx hb dX0_holds_1 rfl hl (by decide) rfl (fun ls hl => ?_)
  exact hL2 FU 0 _ hF (lv_sub hl [1, 2, 0] rfl)
def LX0_greatestOf_8 (nc : Nat) (cs : Int32) (CX : Nat → Int32) (CY : Nat → Int32) (CZ : Nat → Int32)  : Nat → Int32 → Int32 → Int32 → Int32 → Int32 → Option (Int32)
  | 0, _, _, _, _, _ => none
  | k + 1, a1, a2, a3, a4, a5 =>
  (if cs ≤ a5 then (some a4) else (gd_in a5 nc (cut (if a4 < ((a1 * (CX a5.toNatClampNeg)) + (a2 * (CY a5.toNatClampNeg))) + (a3 * (CZ a5.toNatClampNeg)) then ((a1 * (CX a5.toNatClampNeg)) + (a2 * (CY a5.toNatClampNeg))) + (a3 * (CZ a5.toNatClampNeg)) else a4) (fun c_3 => (LX0_greatestOf_8 nc cs CX CY CZ k a1 a2 a3 c_3 (a5 + 1))))))
def fX0_greatestOf (nc : Nat) (cs : Int32) (CX : Nat → Int32) (CY : Nat → Int32) (CZ : Nat → Int32) (p1 : Int32) (p2 : Int32) (p3 : Int32) : Option (Int32) :=
  (LX0_greatestOf_8 nc cs CX CY CZ FU p1 p2 p3 (-1500) 0)
abbrev rX0_greatestOf : Room := { frames := 1, cells := 0, slots := 0, locals := 21 }
set_option maxHeartbeats 40000000 in
set_option maxRecDepth 100000 in
theorem kX0_greatestOf (l : Launch) (G : GT) (f0 c0 cx cy cz s0 b0 al ag aw : Nat) (nc : Nat) (fl : Int32) (mo : Int32) (og : Option Nat) (cs : Int32) (CX : Nat → Int32) (CY : Nat → Int32) (CZ : Nat → Int32) (p1 : Int32) (p2 : Int32) (p3 : Int32) (res : Int32) (hF : fX0_greatestOf nc cs CX CY CZ p1 p2 p3 = some res) : Met l yX0_greatestOf wsX0_greatestOf rX0_greatestOf (va_Pc [.ref f0, .int p1, .int p2, .int p3] (pR G (wBdG G f0 c0 cx cy cz s0 b0 al ag aw nc fl mo og cs CX CY CZ))) (vp_Si (fun r => r = res)) 0 0 (fun _ => False) := by
  refine Met.ofW (cc := cX0_greatestOf) (maxL := 6) (ret := (some .int)) (by decide) rfl ?_
  intro p e s m args below meth c s₁ B hml hv
  obtain ⟨rfl, hP, hK⟩ := hv
  have hx := B.exec
  have hb := B.bytes
  have hr := B.returns
  have hts := atoms_spec (ws := wsX0_greatestOf) B.pre
  have hown : s.vm.findClass RX0 = some m.cls := findClass_of_methodNamed B.named
  have hlocks := B.notSynchronized
  have hin0 : ∀ w ∈ u_ws RX0 TX0 9, w ∈ wsX0_greatestOf := by decide +kernel
  have hfl31 := hts (.fieldLink RX0 31 "SwellBodies$Body" "corners" "LSwellBodies$Points;") (by decide +kernel)
  have hin4 : ∀ w ∈ u_ws RX4 TX4 4, w ∈ wsX0_greatestOf := by decide +kernel
  have hfl48 := hts (.fieldLink RX0 48 "SwellBodies$Points" "size" "I") (by decide +kernel)
  have hfl66 := hts (.fieldLink RX0 66 "SwellBodies$Points" "x" "[I") (by decide +kernel)
  have hfl69 := hts (.fieldLink RX0 69 "SwellBodies$Points" "y" "[I") (by decide +kernel)
  have hfl72 := hts (.fieldLink RX0 72 "SwellBodies$Points" "z" "[I") (by decide +kernel)
  have hm56 := hts (.methodLink RX0 56 Lib.Math.max.name) (by decide +kernel)
  have hmsmax := hts (.static Lib.Math.max.name) (by decide +kernel)
  have hmi := hts (.initialized "java/lang/Math") (by decide +kernel)
  have hmcmax := hts (.code Lib.Math.max.name Lib.Math.max.code 2 (some .int)) (by decide +kernel)
  have hl := lv_entry ([.ref f0, .int p1, .int p2, .int p3]) (n := 6) (Nat.le_of_ble_eq_true rfl)
  rw [lg_entry_eq]
  generalize (lg_sl ([.ref f0, .int p1, .int p2, .int p3]) ++ List.replicate (6 - (lg_sl ([.ref f0, .int p1, .int p2, .int p3])).length) Slot.unset).toArray = ls at hl ⊢
  have hl : lv_has ls 6 [(0, .ref f0), (1, .int p1), (2, .int p2), (3, .int p3)] := hl
  have hL8 : ∀ (k : Nat), ∀ (a1 : Int32) (a2 : Int32) (a3 : Int32) (a4 : Int32) (a5 : Int32) (ls : Array Slot), LX0_greatestOf_8 nc cs CX CY CZ k a1 a2 a3 a4 a5 = some res → lv_has ls 6 [(0, .ref f0), (1, .int a1), (2, .int a2), (3, .int a3), (4, .int a4), (5, .int a5)] → W p l e (headSpec wsX0_greatestOf rX0_greatestOf).room s m ([.ref f0, .int p1, .int p2, .int p3] : List Value).toArray below meth c s.heap [] 0 0 (MQ below (vp_Si (fun r => r = res)) ([.ref f0, .int p1, .int p2, .int p3] : List Value).toArray s 0 0 (fun _ => False)) (F0 m 8 ls []) := by
    intro k
    induction k with
    | zero =>
      intro a1 a2 a3 a4 a5 ls hF hl
      rw [LX0_greatestOf_8] at hF
      cases hF
    | succ k ih =>
      intro a1 a2 a3 a4 a5 ls hF hl
      rw [LX0_greatestOf_8] at hF
      refine lv_iload hx hb dX0_greatestOf_8 (lv_at hl 5 rfl) ?_
      refine lv_aload_n hx hb dX0_greatestOf_10 rfl (lv_at hl 0 rfl) ?_
      refine va_get (ci := 0) (v := .ref c0) (C := RX0) (T := TX0) (N := 9) hx hb hts hin0 hown hK hP 0 rfl rfl 2 (by decide) hfl31 (fun _ h9 => h9) rfl dX0_greatestOf_11 ?_
      refine va_get (ci := 4) (v := .int cs) (C := RX4) (T := TX4) (N := 4) hx hb hts hin4 hown hK hP 1 rfl rfl 3 (by decide) hfl48 (fun _ h9 => h9) rfl dX0_greatestOf_14 ?_
      refine lv_icmp_ge (tgt := 71) hx hb dX0_greatestOf_17 (by decide) (fun c_1 => ?_) (fun c_1 => ?_)
      · replace hF := it_p c_1 hF
        refine lv_iload hx hb dX0_greatestOf_71 (lv_at hl 4 rfl) ?_
        exact W.iret (v := a4) hx hb hr  (fun t ht hW => ⟨a4, rfl, (so_e hF), ht⟩) (fun q h => absurd h List.not_mem_nil) dX0_greatestOf_73
      · replace hF := it_n c_1 hF
        refine lv_iload hx hb dX0_greatestOf_20 (lv_at hl 4 rfl) ?_
        refine lv_iload_n hx hb dX0_greatestOf_22 rfl (lv_at hl 1 rfl) ?_
        refine lv_aload_n hx hb dX0_greatestOf_23 rfl (lv_at hl 0 rfl) ?_
        refine va_get (ci := 0) (v := .ref c0) (C := RX0) (T := TX0) (N := 9) hx hb hts hin0 hown hK hP 0 rfl rfl 2 (by decide) hfl31 (fun _ h9 => h9) rfl dX0_greatestOf_24 ?_
        refine va_get (ci := 4) (v := .ref cx) (C := RX4) (T := TX4) (N := 4) hx hb hts hin4 hown hK hP 1 rfl rfl 0 (by decide) hfl66 (fun _ h9 => h9) rfl dX0_greatestOf_27 ?_
        refine lv_iload hx hb dX0_greatestOf_30 (lv_at hl 5 rfl) ?_
        obtain ⟨hi_2, hF⟩ := gd_in_s hF
        refine va_iald hx hb hK hP 2 0 rfl rfl hi_2 dX0_greatestOf_32 ?_
        refine lv_imul hx hb dX0_greatestOf_33 ?_
        refine lv_iload_n hx hb dX0_greatestOf_34 rfl (lv_at hl 2 rfl) ?_
        refine lv_aload_n hx hb dX0_greatestOf_35 rfl (lv_at hl 0 rfl) ?_
        refine va_get (ci := 0) (v := .ref c0) (C := RX0) (T := TX0) (N := 9) hx hb hts hin0 hown hK hP 0 rfl rfl 2 (by decide) hfl31 (fun _ h9 => h9) rfl dX0_greatestOf_36 ?_
        refine va_get (ci := 4) (v := .ref cy) (C := RX4) (T := TX4) (N := 4) hx hb hts hin4 hown hK hP 1 rfl rfl 1 (by decide) hfl69 (fun _ h9 => h9) rfl dX0_greatestOf_39 ?_
        refine lv_iload hx hb dX0_greatestOf_42 (lv_at hl 5 rfl) ?_
        refine va_iald hx hb hK hP 3 0 rfl rfl hi_2 dX0_greatestOf_44 ?_
        refine lv_imul hx hb dX0_greatestOf_45 ?_
        refine lv_iadd hx hb dX0_greatestOf_46 ?_
        refine lv_iload_n hx hb dX0_greatestOf_47 rfl (lv_at hl 3 rfl) ?_
        refine lv_aload_n hx hb dX0_greatestOf_48 rfl (lv_at hl 0 rfl) ?_
        refine va_get (ci := 0) (v := .ref c0) (C := RX0) (T := TX0) (N := 9) hx hb hts hin0 hown hK hP 0 rfl rfl 2 (by decide) hfl31 (fun _ h9 => h9) rfl dX0_greatestOf_49 ?_
        refine va_get (ci := 4) (v := .ref cz) (C := RX4) (T := TX4) (N := 4) hx hb hts hin4 hown hK hP 1 rfl rfl 2 (by decide) hfl72 (fun _ h9 => h9) rfl dX0_greatestOf_52 ?_
        refine lv_iload hx hb dX0_greatestOf_55 (lv_at hl 5 rfl) ?_
        refine va_iald hx hb hK hP 4 0 rfl rfl hi_2 dX0_greatestOf_57 ?_
        refine lv_imul hx hb dX0_greatestOf_58 ?_
        refine lv_iadd hx hb dX0_greatestOf_59 ?_
        refine va_mmax hx hb (by rw [hml]; exact hl.1.symm) hown hm56 hmsmax hmi hmcmax (Nat.le_of_ble_eq_true rfl) (Nat.le_of_ble_eq_true rfl) (Nat.le_of_ble_eq_true rfl) (Nat.le_of_ble_eq_true rfl) dX0_greatestOf_60 ?_
        refine lv_topi (fun c_3 ec_3 => ?_)
        replace hF := cut_at ec_3 hF
        refine lv_istore (lv' := [(4, .int c_3), (0, .ref f0), (1, .int a1), (2, .int a2), (3, .int a3), (5, .int a5)]) hx hb dX0_greatestOf_63 hl (by decide) rfl (fun ls hl => ?_)
        refine lv_iinc (v := a5 + 1) (lv' := [(5, .int (a5 + 1)), (4, .int c_3), (0, .ref f0), (1, .int a1), (2, .int a2), (3, .int a3)]) hx hb dX0_greatestOf_65 hl (k := 5) rfl rfl (by decide) rfl (fun ls hl => ?_)
        refine lv_goto (tgt := 8) hx hb dX0_greatestOf_68 (by decide) ?_
        exact ih a1 a2 a3 c_3 (a5 + 1) _ hF (lv_sub hl [2, 3, 4, 5, 1, 0] rfl)
  unfold fX0_greatestOf at hF
  refine lv_sipush (v := (-1500)) hx hb dX0_greatestOf_0 (by decide) ?_
  refine lv_istore (lv' := [(4, .int (-1500)), (0, .ref f0), (1, .int p1), (2, .int p2), (3, .int p3)]) hx hb dX0_greatestOf_3 hl (by decide) rfl (fun ls hl => ?_)
  refine lv_iconst (v := 0) hx hb dX0_greatestOf_5 (by decide) ?_
  refine lv_istore (lv' := [(5, .int 0), (4, .int (-1500)), (0, .ref f0), (1, .int p1), (2, .int p2), (3, .int p3)]) hx hb dX0_greatestOf_6 hl (by decide) rfl (fun ls hl => ?_)
  exact hL8 FU p1 p2 p3 (-1500) 0 _ hF (lv_sub hl [2, 3, 4, 5, 1, 0] rfl)
