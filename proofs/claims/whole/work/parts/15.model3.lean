def gd_b {α : Type} (v : Int32) (a : Option α) : Option α := if v = 0 ∨ v = 1 then a else none
theorem gd_b_s {α : Type} {v : Int32} {a : Option α} {r : α} (h : gd_b v a = some r) : (v = 0 ∨ v = 1) ∧ a = some r := by
  unfold gd_b at h
  by_cases hc : v = 0 ∨ v = 1
  · rw [if_pos hc] at h; exact ⟨hc, h⟩
  · rw [if_neg hc] at h; cases h
def LX9_body_29 (DR : Nat → Int32)  : Nat → Int32 → Int32 → Int32 → Int32 → Int32 → Int32 → Int32 → (Nat → Int32) → (Nat → Int32) → (Nat → Int32) → (Nat → Int32) → (Nat → Int32) → (Nat → Int32) → (Nat → Int32) → (Nat → Int32) → (Nat → Int32) → (Nat → Int32) → Option (Int32 × Int32 × Int32 × Int32 × Int32 × Int32 × Int32 × (Nat → Int32) × (Nat → Int32) × (Nat → Int32) × (Nat → Int32) × (Nat → Int32) × (Nat → Int32) × (Nat → Int32) × (Nat → Int32) × (Nat → Int32) × (Nat → Int32))
  | 0, _, _, _, _, _, _, _, _, _, _, _, _, _, _, _, _, _ => none
  | k + 1, a1, mdr, mbo, mpo, msx, msy, msw, mFI, mCO, mCR, mSI, mSR, mMO, mBO, mPX, mPY, mPZ =>
  (if mdr ≤ a1 then (bd (fX9_made mbo mpo msx msy msw mFI mCO mCR mSI mSR mMO mBO mPX mPY mPZ mdr) (fun v_4 => (some (v_4.1, 0, v_4.2.1, mpo, v_4.2.2.1, v_4.2.2.2.1, v_4.2.2.2.2.1, v_4.2.2.2.2.2.1, v_4.2.2.2.2.2.2.1, v_4.2.2.2.2.2.2.2.1, v_4.2.2.2.2.2.2.2.2.1, v_4.2.2.2.2.2.2.2.2.2.1, v_4.2.2.2.2.2.2.2.2.2.2.1, v_4.2.2.2.2.2.2.2.2.2.2.2, mPX, mPY, mPZ)))) else (gd_in (3 * a1) 36 (gd_in ((3 * a1) + 1) 36 (gd_in ((3 * a1) + 2) 36 (bd (fX9_point mpo mPX mPY mPZ (DR (3 * a1).toNatClampNeg) (DR ((3 * a1) + 1).toNatClampNeg) (DR ((3 * a1) + 2).toNatClampNeg)) (fun v_8 => (LX9_body_29 DR k (a1 + 1) mdr mbo v_8.1 msx msy msw mFI mCO mCR mSI mSR mMO mBO v_8.2.1 v_8.2.2.1 v_8.2.2.2)))))))
def fX9_body (dr : Int32) (bo : Int32) (po : Int32) (sx : Int32) (sy : Int32) (sw : Int32) (DR : Nat → Int32) (FI : Nat → Int32) (CO : Nat → Int32) (CR : Nat → Int32) (SI : Nat → Int32) (SR : Nat → Int32) (MO : Nat → Int32) (BO : Nat → Int32) (PX : Nat → Int32) (PY : Nat → Int32) (PZ : Nat → Int32) : Option (Int32 × Int32 × Int32 × Int32 × Int32 × Int32 × Int32 × (Nat → Int32) × (Nat → Int32) × (Nat → Int32) × (Nat → Int32) × (Nat → Int32) × (Nat → Int32) × (Nat → Int32) × (Nat → Int32) × (Nat → Int32) × (Nat → Int32)) :=
  (if dr = 0 then (some ((-2), dr, bo, po, sx, sy, sw, FI, CO, CR, SI, SR, MO, BO, PX, PY, PZ)) else (if bo = 8 then (some ((-3), dr, bo, po, sx, sy, sw, FI, CO, CR, SI, SR, MO, BO, PX, PY, PZ)) else (LX9_body_29 DR FU 0 dr bo 0 sx sy sw FI CO CR SI SR MO BO PX PY PZ)))
abbrev rX9_body : Room := { frames := 6, cells := 0, slots := 0, locals := 147 }
set_option maxHeartbeats 40000000 in
set_option maxRecDepth 100000 in
theorem kX9_body (l : Launch) (G : GT) (h0 qDR qLA qLE qCE qFI qCO qCR qSI qSR qMO qBO qPX qPY qPZ qSX : Nat) (sz : Nat) (dr : Int32) (bo : Int32) (po : Int32) (sx : Int32) (sy : Int32) (sw : Int32) (tx : Int32) (ty : Int32) (tz : Int32) (DR : Nat → Int32) (LA : Nat → Int32) (LE : Nat → Int32) (CE : Nat → Int64) (FI : Nat → Int32) (CO : Nat → Int32) (CR : Nat → Int32) (SI : Nat → Int32) (SR : Nat → Int32) (MO : Nat → Int32) (BO : Nat → Int32) (PX : Nat → Int32) (PY : Nat → Int32) (PZ : Nat → Int32) (SX : Nat → Int32) (res : Int32 × Int32 × Int32 × Int32 × Int32 × Int32 × Int32 × (Nat → Int32) × (Nat → Int32) × (Nat → Int32) × (Nat → Int32) × (Nat → Int32) × (Nat → Int32) × (Nat → Int32) × (Nat → Int32) × (Nat → Int32) × (Nat → Int32)) (hF : fX9_body dr bo po sx sy sw DR FI CO CR SI SR MO BO PX PY PZ = some res) : Met l yX9_body wsX9_body rX9_body (va_Pc [.ref h0] (pW G sz (wMod G h0 qDR qLA qLE qCE qFI qCO qCR qSI qSR qMO qBO qPX qPY qPZ qSX dr bo po sx sy sw tx ty tz DR LA LE CE FI CO CR SI SR MO BO PX PY PZ SX))) (va_Qi (fun (r : Int32) (u : Int32 × Int32 × Int32 × Int32 × Int32 × Int32 × (Nat → Int32) × (Nat → Int32) × (Nat → Int32) × (Nat → Int32) × (Nat → Int32) × (Nat → Int32) × (Nat → Int32) × (Nat → Int32) × (Nat → Int32) × (Nat → Int32)) => r = res.1 ∧ u = res.2) (fun u t => qW G (va_A (wMod G h0 qDR qLA qLE qCE qFI qCO qCR qSI qSR qMO qBO qPX qPY qPZ qSX dr bo po sx sy sw tx ty tz DR LA LE CE FI CO CR SI SR MO BO PX PY PZ SX) sz) (wMod G h0 qDR qLA qLE qCE qFI qCO qCR qSI qSR qMO qBO qPX qPY qPZ qSX u.1 u.2.1 u.2.2.1 u.2.2.2.1 u.2.2.2.2.1 u.2.2.2.2.2.1 tx ty tz DR LA LE CE u.2.2.2.2.2.2.1 u.2.2.2.2.2.2.2.1 u.2.2.2.2.2.2.2.2.1 u.2.2.2.2.2.2.2.2.2.1 u.2.2.2.2.2.2.2.2.2.2.1 u.2.2.2.2.2.2.2.2.2.2.2.1 u.2.2.2.2.2.2.2.2.2.2.2.2.1 u.2.2.2.2.2.2.2.2.2.2.2.2.2.1 u.2.2.2.2.2.2.2.2.2.2.2.2.2.2.1 u.2.2.2.2.2.2.2.2.2.2.2.2.2.2.2 SX) t) (va_A (wMod G h0 qDR qLA qLE qCE qFI qCO qCR qSI qSR qMO qBO qPX qPY qPZ qSX dr bo po sx sy sw tx ty tz DR LA LE CE FI CO CR SI SR MO BO PX PY PZ SX) sz)) 0 0 (va_A (wMod G h0 qDR qLA qLE qCE qFI qCO qCR qSI qSR qMO qBO qPX qPY qPZ qSX dr bo po sx sy sw tx ty tz DR LA LE CE FI CO CR SI SR MO BO PX PY PZ SX) sz) := by
  refine Met.ofW (cc := cX9_body) (maxL := 2) (ret := (some .int)) (by decide) rfl ?_
  intro p e s m args below meth c s₁ B hml hv
  obtain ⟨rfl, hsz, hP, hK, hD0⟩ := hv
  have hx := B.exec
  have hb := B.bytes
  have hr := B.returns
  have hts := atoms_spec (ws := wsX9_body) B.pre
  have hown : s.vm.findClass RX9 = some m.cls := findClass_of_methodNamed B.named
  have hlocks := B.notSynchronized
  subst hsz
  have hD := hD0.self (sz := s.heap.size)
  generalize hAe : va_A (wMod G h0 qDR qLA qLE qCE qFI qCO qCR qSI qSR qMO qBO qPX qPY qPZ qSX dr bo po sx sy sw tx ty tz DR LA LE CE FI CO CR SI SR MO BO PX PY PZ SX) s.heap.size = A at hD ⊢
  have hA : ∀ q : Nat, s.heap.size ≤ q → A q := fun q h => by rw [← hAe]; exact Or.inr h
  have hS : va_S A s.heap s.heap [] := va_S.rf
  have hin9 : ∀ w ∈ u_ws RX9 TX9 24, w ∈ wsX9_body := by decide +kernel
  have hfl64 := hts (.fieldLink RX9 64 "SwellBodiesModel" "drafted" "I") (by decide +kernel)
  have hfl124 := hts (.fieldLink RX9 124 "SwellBodiesModel" "bodies" "I") (by decide +kernel)
  have hfl74 := hts (.fieldLink RX9 74 "SwellBodiesModel" "points" "I") (by decide +kernel)
  have hfl7 := hts (.fieldLink RX9 7 "SwellBodiesModel" "draft" "[I") (by decide +kernel)
  have hl := lv_entry ([.ref h0]) (n := 2) (Nat.le_of_ble_eq_true rfl)
  rw [lg_entry_eq]
  generalize (lg_sl ([.ref h0]) ++ List.replicate (2 - (lg_sl ([.ref h0])).length) Slot.unset).toArray = ls at hl ⊢
  have hl : lv_has ls 2 [(0, .ref h0)] := hl
  have hL29 : ∀ (k : Nat), ∀ (a1 : Int32) (mdr : Int32) (mbo : Int32) (mpo : Int32) (msx : Int32) (msy : Int32) (msw : Int32) (mFI : Nat → Int32) (mCO : Nat → Int32) (mCR : Nat → Int32) (mSI : Nat → Int32) (mSR : Nat → Int32) (mMO : Nat → Int32) (mBO : Nat → Int32) (mPX : Nat → Int32) (mPY : Nat → Int32) (mPZ : Nat → Int32) (H : Heap) (locs : List Loc) (ls : Array Slot), LX9_body_29 DR k a1 mdr mbo mpo msx msy msw mFI mCO mCR mSI mSR mMO mBO mPX mPY mPZ = some res → va_P (gD G) vwCl (wMod G h0 qDR qLA qLE qCE qFI qCO qCR qSI qSR qMO qBO qPX qPY qPZ qSX mdr mbo mpo msx msy msw tx ty tz DR LA LE CE mFI mCO mCR mSI mSR mMO mBO mPX mPY mPZ SX) H → va_D A (wMod G h0 qDR qLA qLE qCE qFI qCO qCR qSI qSR qMO qBO qPX qPY qPZ qSX mdr mbo mpo msx msy msw tx ty tz DR LA LE CE mFI mCO mCR mSI mSR mMO mBO mPX mPY mPZ SX) → va_S A s.heap H locs → lv_has ls 2 [(0, .ref h0), (1, .int a1)] → W p l e (headSpec wsX9_body rX9_body).room s m ([.ref h0] : List Value).toArray below meth c H locs 0 0 (MQ below (va_Qi (fun (r : Int32) (u : Int32 × Int32 × Int32 × Int32 × Int32 × Int32 × (Nat → Int32) × (Nat → Int32) × (Nat → Int32) × (Nat → Int32) × (Nat → Int32) × (Nat → Int32) × (Nat → Int32) × (Nat → Int32) × (Nat → Int32) × (Nat → Int32)) => r = res.1 ∧ u = res.2) (fun u t => qW G A (wMod G h0 qDR qLA qLE qCE qFI qCO qCR qSI qSR qMO qBO qPX qPY qPZ qSX u.1 u.2.1 u.2.2.1 u.2.2.2.1 u.2.2.2.2.1 u.2.2.2.2.2.1 tx ty tz DR LA LE CE u.2.2.2.2.2.2.1 u.2.2.2.2.2.2.2.1 u.2.2.2.2.2.2.2.2.1 u.2.2.2.2.2.2.2.2.2.1 u.2.2.2.2.2.2.2.2.2.2.1 u.2.2.2.2.2.2.2.2.2.2.2.1 u.2.2.2.2.2.2.2.2.2.2.2.2.1 u.2.2.2.2.2.2.2.2.2.2.2.2.2.1 u.2.2.2.2.2.2.2.2.2.2.2.2.2.2.1 u.2.2.2.2.2.2.2.2.2.2.2.2.2.2.2 SX) t) A) ([.ref h0] : List Value).toArray s 0 0 A) (F0 m 29 ls []) := by
    intro k
    induction k with
    | zero =>
      intro a1 mdr mbo mpo msx msy msw mFI mCO mCR mSI mSR mMO mBO mPX mPY mPZ H locs ls hF hP hD hS hl
      rw [LX9_body_29] at hF
      cases hF
    | succ k ih =>
      intro a1 mdr mbo mpo msx msy msw mFI mCO mCR mSI mSR mMO mBO mPX mPY mPZ H locs ls hF hP hD hS hl
      rw [LX9_body_29] at hF
      refine lv_iload_n hx hb dX9_body_29 rfl (lv_at hl 1 rfl) ?_
      refine lv_aload_n hx hb dX9_body_30 rfl (lv_at hl 0 rfl) ?_
      refine va_get (ci := 9) (v := .int mdr) (C := RX9) (T := TX9) (N := 24) hx hb hts hin9 hown hK hP 0 rfl rfl 0 (by decide) hfl64 (fun _ h9 => h9) rfl dX9_body_31 ?_
      refine lv_icmp_ge (tgt := 75) hx hb dX9_body_34 (by decide) (fun c_3 => ?_) (fun c_3 => ?_)
      · replace hF := it_p c_3 hF
        refine lv_aload_n hx hb dX9_body_75 rfl (lv_at hl 0 rfl) ?_
        refine va_get (ci := 9) (v := .int mdr) (C := RX9) (T := TX9) (N := 24) hx hb hts hin9 hown hK hP 0 rfl rfl 0 (by decide) hfl64 (fun _ h9 => h9) rfl dX9_body_76 ?_
        refine lv_istore_n (lv' := [(1, .int mdr), (0, .ref h0)]) hx hb dX9_body_79 rfl hl (by decide) rfl (fun ls hl => ?_)
        refine lv_aload_n hx hb dX9_body_80 rfl (lv_at hl 1 rfl) ?_
        refine lv_iconst (v := 0) hx hb dX9_body_81 (by decide) ?_
        refine va_put (ci := 9) (v := .int 0) (ty := .int) (C := RX9) (T := TX9) (N := 24) hx hb hts hin9 tyX9 tyX9_ok nmX9 hown hK hP hD hS 0 rfl rfl 0 (by decide) hfl64 (fun _ h9 => h9) rfl (by decide +kernel) rfl rfl (Nat.le_of_ble_eq_true rfl) dX9_body_82 (fun H locs hP hD hS => ?_)
        have hP : va_P (gD G) vwCl (wMod G h0 qDR qLA qLE qCE qFI qCO qCR qSI qSR qMO qBO qPX qPY qPZ qSX 0 mbo mpo msx msy msw tx ty tz DR LA LE CE mFI mCO mCR mSI mSR mMO mBO mPX mPY mPZ SX) H := hP
        have hD : va_D A (wMod G h0 qDR qLA qLE qCE qFI qCO qCR qSI qSR qMO qBO qPX qPY qPZ qSX 0 mbo mpo msx msy msw tx ty tz DR LA LE CE mFI mCO mCR mSI mSR mMO mBO mPX mPY mPZ SX) := hD
        refine lv_aload_n hx hb dX9_body_85 rfl (lv_at hl 1 rfl) ?_
        refine lv_iload_n hx hb dX9_body_86 rfl (lv_at hl 0 rfl) ?_
        obtain ⟨v_4, hv_4, hF⟩ := bd_s hF
        refine rw_ie (wf := (fun (u : Int32 × Int32 × Int32 × Int32 × (Nat → Int32) × (Nat → Int32) × (Nat → Int32) × (Nat → Int32) × (Nat → Int32) × (Nat → Int32) × (Nat → Int32)) => (wMod G h0 qDR qLA qLE qCE qFI qCO qCR qSI qSR qMO qBO qPX qPY qPZ qSX 0 u.1 mpo u.2.1 u.2.2.1 u.2.2.2.1 tx ty tz DR LA LE CE u.2.2.2.2.1 u.2.2.2.2.2.1 u.2.2.2.2.2.2.1 u.2.2.2.2.2.2.2.1 u.2.2.2.2.2.2.2.2.1 u.2.2.2.2.2.2.2.2.2.1 u.2.2.2.2.2.2.2.2.2.2 mPX mPY mPZ SX))) (wr := []) (va_runV (As := [.int mdr]) (rest := []) ⟨hx, hb, hml, hown, hts⟩ (kX9_made l G h0 qDR qLA qLE qCE qFI qCO qCR qSI qSR qMO qBO qPX qPY qPZ qSX H.size 0 mbo mpo msx msy msw tx ty tz DR LA LE CE mFI mCO mCR mSI mSR mMO mBO mPX mPY mPZ SX mdr v_4 hv_4) (cwV 1 hts gX9_body_X9_made rfl rfl rfl (by decide +kernel) ⟨Nat.le_of_ble_eq_true rfl, Nat.le_of_ble_eq_true rfl⟩) (pvW (q0 := 0) 9 hK (hP.sub (ws' := (wMod G h0 qDR qLA qLE qCE qFI qCO qCR qSI qSR qMO qBO qPX qPY qPZ qSX 0 mbo mpo msx msy msw tx ty tz DR LA LE CE mFI mCO mCR mSI mSR mMO mBO mPX mPY mPZ SX)) [0, 1, 2, 3, 4, 5, 6, 7, 8, 9, 10, 11, 12, 13, 14, 15] rfl) (hD.sub (ws' := (wMod G h0 qDR qLA qLE qCE qFI qCO qCR qSI qSR qMO qBO qPX qPY qPZ qSX 0 mbo mpo msx msy msw tx ty tz DR LA LE CE mFI mCO mCR mSI mSR mMO mBO mPX mPY mPZ SX)) [0, 1, 2, 3, 4, 5, 6, 7, 8, 9, 10, 11, 12, 13, 14, 15] (by decide) rfl) rfl rfl) rfl rfl hl.1 rfl (lv_room (Nat.le_of_ble_eq_true rfl)) dX9_body_87 ⟨Nat.le_of_ble_eq_true rfl, Nat.le_of_ble_eq_true rfl⟩) hP hD hS hA [0, 1, 2, 3, 4, 5, 6, 7, 8, 9, 10, 11, 12, 13, 14, 15] [] rfl rfl (by decide) (by decide) (fun H locs  hP hD hS => ?_)
        have hP : va_P (gD G) vwCl (wMod G h0 qDR qLA qLE qCE qFI qCO qCR qSI qSR qMO qBO qPX qPY qPZ qSX 0 v_4.2.1 mpo v_4.2.2.1 v_4.2.2.2.1 v_4.2.2.2.2.1 tx ty tz DR LA LE CE v_4.2.2.2.2.2.1 v_4.2.2.2.2.2.2.1 v_4.2.2.2.2.2.2.2.1 v_4.2.2.2.2.2.2.2.2.1 v_4.2.2.2.2.2.2.2.2.2.1 v_4.2.2.2.2.2.2.2.2.2.2.1 v_4.2.2.2.2.2.2.2.2.2.2.2 mPX mPY mPZ SX) H := hP.sub [0, 1, 2, 3, 4, 5, 6, 7, 8, 9, 10, 11, 12, 13, 14, 15] rfl
        have hD : va_D A (wMod G h0 qDR qLA qLE qCE qFI qCO qCR qSI qSR qMO qBO qPX qPY qPZ qSX 0 v_4.2.1 mpo v_4.2.2.1 v_4.2.2.2.1 v_4.2.2.2.2.1 tx ty tz DR LA LE CE v_4.2.2.2.2.2.1 v_4.2.2.2.2.2.2.1 v_4.2.2.2.2.2.2.2.1 v_4.2.2.2.2.2.2.2.2.1 v_4.2.2.2.2.2.2.2.2.2.1 v_4.2.2.2.2.2.2.2.2.2.2.1 v_4.2.2.2.2.2.2.2.2.2.2.2 mPX mPY mPZ SX) := hD.sub [0, 1, 2, 3, 4, 5, 6, 7, 8, 9, 10, 11, 12, 13, 14, 15] (by decide) rfl
        exact W.iret (v := v_4.1) hx hb hr  (fun t ht hW => ⟨⟨v_4.1, (0, v_4.2.1, mpo, v_4.2.2.1, v_4.2.2.2.1, v_4.2.2.2.2.1, v_4.2.2.2.2.2.1, v_4.2.2.2.2.2.2.1, v_4.2.2.2.2.2.2.2.1, v_4.2.2.2.2.2.2.2.2.1, v_4.2.2.2.2.2.2.2.2.2.1, v_4.2.2.2.2.2.2.2.2.2.2.1, v_4.2.2.2.2.2.2.2.2.2.2.2, mPX, mPY, mPZ), rfl, ⟨congrArg Prod.fst (so_e hF), congrArg Prod.snd (so_e hF)⟩, qW_mk ht hP hK hW hD⟩, hS.F ht⟩) hS.2.2 dX9_body_90
      · replace hF := it_n c_3 hF
        refine lv_aload_n hx hb dX9_body_37 rfl (lv_at hl 0 rfl) ?_
        refine lv_aload_n hx hb dX9_body_38 rfl (lv_at hl 0 rfl) ?_
        refine va_get (ci := 9) (v := .ref qDR) (C := RX9) (T := TX9) (N := 24) hx hb hts hin9 hown hK hP 0 rfl rfl 1 (by decide) hfl7 (fun _ h9 => h9) rfl dX9_body_39 ?_
        refine lv_iconst (v := 3) hx hb dX9_body_42 (by decide) ?_
        refine lv_iload_n hx hb dX9_body_43 rfl (lv_at hl 1 rfl) ?_
        refine lv_imul hx hb dX9_body_44 ?_
        obtain ⟨hi_5, hF⟩ := gd_in_s hF
        refine va_iald hx hb hK hP 1 0 rfl rfl hi_5 dX9_body_45 ?_
        refine lv_aload_n hx hb dX9_body_46 rfl (lv_at hl 0 rfl) ?_
        refine va_get (ci := 9) (v := .ref qDR) (C := RX9) (T := TX9) (N := 24) hx hb hts hin9 hown hK hP 0 rfl rfl 1 (by decide) hfl7 (fun _ h9 => h9) rfl dX9_body_47 ?_
        refine lv_iconst (v := 3) hx hb dX9_body_50 (by decide) ?_
        refine lv_iload_n hx hb dX9_body_51 rfl (lv_at hl 1 rfl) ?_
        refine lv_imul hx hb dX9_body_52 ?_
        refine lv_iconst (v := 1) hx hb dX9_body_53 (by decide) ?_
        refine lv_iadd hx hb dX9_body_54 ?_
        obtain ⟨hi_6, hF⟩ := gd_in_s hF
        refine va_iald hx hb hK hP 1 0 rfl rfl hi_6 dX9_body_55 ?_
        refine lv_aload_n hx hb dX9_body_56 rfl (lv_at hl 0 rfl) ?_
        refine va_get (ci := 9) (v := .ref qDR) (C := RX9) (T := TX9) (N := 24) hx hb hts hin9 hown hK hP 0 rfl rfl 1 (by decide) hfl7 (fun _ h9 => h9) rfl dX9_body_57 ?_
        refine lv_iconst (v := 3) hx hb dX9_body_60 (by decide) ?_
        refine lv_iload_n hx hb dX9_body_61 rfl (lv_at hl 1 rfl) ?_
        refine lv_imul hx hb dX9_body_62 ?_
        refine lv_iconst (v := 2) hx hb dX9_body_63 (by decide) ?_
        refine lv_iadd hx hb dX9_body_64 ?_
        obtain ⟨hi_7, hF⟩ := gd_in_s hF
        refine va_iald hx hb hK hP 1 0 rfl rfl hi_7 dX9_body_65 ?_
        obtain ⟨v_8, hv_8, hF⟩ := bd_s hF
        refine rw_ve (wf := (fun (u : Int32 × (Nat → Int32) × (Nat → Int32) × (Nat → Int32)) => (wMod G h0 qDR qLA qLE qCE qFI qCO qCR qSI qSR qMO qBO qPX qPY qPZ qSX mdr mbo u.1 msx msy msw tx ty tz DR LA LE CE mFI mCO mCR mSI mSR mMO mBO u.2.1 u.2.2.1 u.2.2.2 SX))) (wr := []) (va_runV (As := [.int (DR (3 * a1).toNatClampNeg), .int (DR ((3 * a1) + 1).toNatClampNeg), .int (DR ((3 * a1) + 2).toNatClampNeg)]) (rest := []) ⟨hx, hb, hml, hown, hts⟩ (kX9_point l G h0 qDR qLA qLE qCE qFI qCO qCR qSI qSR qMO qBO qPX qPY qPZ qSX H.size mdr mbo mpo msx msy msw tx ty tz DR LA LE CE mFI mCO mCR mSI mSR mMO mBO mPX mPY mPZ SX (DR (3 * a1).toNatClampNeg) (DR ((3 * a1) + 1).toNatClampNeg) (DR ((3 * a1) + 2).toNatClampNeg) v_8 hv_8) (cwV 3 hts gX9_body_X9_point rfl rfl rfl (by decide +kernel) ⟨Nat.le_of_ble_eq_true rfl, Nat.le_of_ble_eq_true rfl⟩) (pvW (q0 := 0) 9 hK (hP.sub (ws' := (wMod G h0 qDR qLA qLE qCE qFI qCO qCR qSI qSR qMO qBO qPX qPY qPZ qSX mdr mbo mpo msx msy msw tx ty tz DR LA LE CE mFI mCO mCR mSI mSR mMO mBO mPX mPY mPZ SX)) [0, 1, 2, 3, 4, 5, 6, 7, 8, 9, 10, 11, 12, 13, 14, 15] rfl) (hD.sub (ws' := (wMod G h0 qDR qLA qLE qCE qFI qCO qCR qSI qSR qMO qBO qPX qPY qPZ qSX mdr mbo mpo msx msy msw tx ty tz DR LA LE CE mFI mCO mCR mSI mSR mMO mBO mPX mPY mPZ SX)) [0, 1, 2, 3, 4, 5, 6, 7, 8, 9, 10, 11, 12, 13, 14, 15] (by decide) rfl) rfl rfl) rfl rfl hl.1 rfl (lv_room (Nat.le_of_ble_eq_true rfl)) dX9_body_66 ⟨Nat.le_of_ble_eq_true rfl, Nat.le_of_ble_eq_true rfl⟩) hP hD hS hA [0, 1, 2, 3, 4, 5, 6, 7, 8, 9, 10, 11, 12, 13, 14, 15] [] rfl rfl (by decide) (by decide) (fun H locs  hP hD hS => ?_)
        have hP : va_P (gD G) vwCl (wMod G h0 qDR qLA qLE qCE qFI qCO qCR qSI qSR qMO qBO qPX qPY qPZ qSX mdr mbo v_8.1 msx msy msw tx ty tz DR LA LE CE mFI mCO mCR mSI mSR mMO mBO v_8.2.1 v_8.2.2.1 v_8.2.2.2 SX) H := hP.sub [0, 1, 2, 3, 4, 5, 6, 7, 8, 9, 10, 11, 12, 13, 14, 15] rfl
        have hD : va_D A (wMod G h0 qDR qLA qLE qCE qFI qCO qCR qSI qSR qMO qBO qPX qPY qPZ qSX mdr mbo v_8.1 msx msy msw tx ty tz DR LA LE CE mFI mCO mCR mSI mSR mMO mBO v_8.2.1 v_8.2.2.1 v_8.2.2.2 SX) := hD.sub [0, 1, 2, 3, 4, 5, 6, 7, 8, 9, 10, 11, 12, 13, 14, 15] (by decide) rfl
        refine lv_iinc (v := a1 + 1) (lv' := [(1, .int (a1 + 1)), (0, .ref h0)]) hx hb dX9_body_69 hl (k := 1) rfl rfl (by decide) rfl (fun ls hl => ?_)
        refine lv_goto (tgt := 29) hx hb dX9_body_72 (by decide) ?_
        exact ih (a1 + 1) mdr mbo v_8.1 msx msy msw mFI mCO mCR mSI mSR mMO mBO v_8.2.1 v_8.2.2.1 v_8.2.2.2 _ _ _ hF hP hD hS (lv_sub hl [1, 0] rfl)
  unfold fX9_body at hF
  refine lv_aload_n hx hb dX9_body_0 rfl (lv_at hl 0 rfl) ?_
  refine va_get (ci := 9) (v := .int dr) (C := RX9) (T := TX9) (N := 24) hx hb hts hin9 hown hK hP 0 rfl rfl 0 (by decide) hfl64 (fun _ h9 => h9) rfl dX9_body_1 ?_
  refine lv_if_ne (tgt := 10) hx hb dX9_body_4 (by decide) (fun c_1 => ?_) (fun c_1 => ?_)
  · replace hF := it_n c_1 hF
    refine lv_aload_n hx hb dX9_body_10 rfl (lv_at hl 0 rfl) ?_
    refine va_get (ci := 9) (v := .int bo) (C := RX9) (T := TX9) (N := 24) hx hb hts hin9 hown hK hP 0 rfl rfl 5 (by decide) hfl124 (fun _ h9 => h9) rfl dX9_body_11 ?_
    refine lv_bipush (v := 8) hx hb dX9_body_14 (by decide) ?_
    refine lv_icmp_ne (tgt := 22) hx hb dX9_body_16 (by decide) (fun c_2 => ?_) (fun c_2 => ?_)
    · replace hF := it_n c_2 hF
      refine lv_aload_n hx hb dX9_body_22 rfl (lv_at hl 0 rfl) ?_
      refine lv_iconst (v := 0) hx hb dX9_body_23 (by decide) ?_
      refine va_put (ci := 9) (v := .int 0) (ty := .int) (C := RX9) (T := TX9) (N := 24) hx hb hts hin9 tyX9 tyX9_ok nmX9 hown hK hP hD hS 0 rfl rfl 13 (by decide) hfl74 (fun _ h9 => h9) rfl (by decide +kernel) rfl rfl (Nat.le_of_ble_eq_true rfl) dX9_body_24 (fun H locs hP hD hS => ?_)
      have hP : va_P (gD G) vwCl (wMod G h0 qDR qLA qLE qCE qFI qCO qCR qSI qSR qMO qBO qPX qPY qPZ qSX dr bo 0 sx sy sw tx ty tz DR LA LE CE FI CO CR SI SR MO BO PX PY PZ SX) H := hP
      have hD : va_D A (wMod G h0 qDR qLA qLE qCE qFI qCO qCR qSI qSR qMO qBO qPX qPY qPZ qSX dr bo 0 sx sy sw tx ty tz DR LA LE CE FI CO CR SI SR MO BO PX PY PZ SX) := hD
      refine lv_iconst (v := 0) hx hb dX9_body_27 (by decide) ?_
      refine lv_istore_n (lv' := [(1, .int 0), (0, .ref h0)]) hx hb dX9_body_28 rfl hl (by decide) rfl (fun ls hl => ?_)
      exact hL29 FU 0 dr bo 0 sx sy sw FI CO CR SI SR MO BO PX PY PZ _ _ _ hF hP hD hS (lv_sub hl [1, 0] rfl)
    · replace hF := it_p c_2 hF
      refine lv_bipush (v := (-3)) hx hb dX9_body_19 (by decide) ?_
      exact W.iret (v := (-3)) hx hb hr  (fun t ht hW => ⟨⟨(-3), (dr, bo, po, sx, sy, sw, FI, CO, CR, SI, SR, MO, BO, PX, PY, PZ), rfl, ⟨congrArg Prod.fst (so_e hF), congrArg Prod.snd (so_e hF)⟩, qW_mk ht hP hK hW hD⟩, hS.F ht⟩) hS.2.2 dX9_body_21
  · replace hF := it_p c_1 hF
    refine lv_bipush (v := (-2)) hx hb dX9_body_7 (by decide) ?_
    exact W.iret (v := (-2)) hx hb hr  (fun t ht hW => ⟨⟨(-2), (dr, bo, po, sx, sy, sw, FI, CO, CR, SI, SR, MO, BO, PX, PY, PZ), rfl, ⟨congrArg Prod.fst (so_e hF), congrArg Prod.snd (so_e hF)⟩, qW_mk ht hP hK hW hD⟩, hS.F ht⟩) hS.2.2 dX9_body_9
def fX9_drop (bo : Int32) : Option (Int32 × Int32) :=
  (if bo = 0 then (some ((-4), bo)) else (some (bo - 1, bo - 1)))
abbrev rX9_drop : Room := { frames := 0, cells := 0, slots := 0, locals := 0 }
set_option maxHeartbeats 40000000 in
set_option maxRecDepth 100000 in
theorem kX9_drop (l : Launch) (G : GT) (h0 qDR qLA qLE qCE qFI qCO qCR qSI qSR qMO qBO qPX qPY qPZ qSX : Nat) (sz : Nat) (dr : Int32) (bo : Int32) (po : Int32) (sx : Int32) (sy : Int32) (sw : Int32) (tx : Int32) (ty : Int32) (tz : Int32) (DR : Nat → Int32) (LA : Nat → Int32) (LE : Nat → Int32) (CE : Nat → Int64) (FI : Nat → Int32) (CO : Nat → Int32) (CR : Nat → Int32) (SI : Nat → Int32) (SR : Nat → Int32) (MO : Nat → Int32) (BO : Nat → Int32) (PX : Nat → Int32) (PY : Nat → Int32) (PZ : Nat → Int32) (SX : Nat → Int32) (res : Int32 × Int32) (hF : fX9_drop bo = some res) : Met l yX9_drop wsX9_drop rX9_drop (va_Pc [.ref h0] (pW G sz (wMod G h0 qDR qLA qLE qCE qFI qCO qCR qSI qSR qMO qBO qPX qPY qPZ qSX dr bo po sx sy sw tx ty tz DR LA LE CE FI CO CR SI SR MO BO PX PY PZ SX))) (va_Qi (fun (r : Int32) (u : Int32) => r = res.1 ∧ u = res.2) (fun u t => qW G (va_A (wMod G h0 qDR qLA qLE qCE qFI qCO qCR qSI qSR qMO qBO qPX qPY qPZ qSX dr bo po sx sy sw tx ty tz DR LA LE CE FI CO CR SI SR MO BO PX PY PZ SX) sz) (wMod G h0 qDR qLA qLE qCE qFI qCO qCR qSI qSR qMO qBO qPX qPY qPZ qSX dr u po sx sy sw tx ty tz DR LA LE CE FI CO CR SI SR MO BO PX PY PZ SX) t) (va_A (wMod G h0 qDR qLA qLE qCE qFI qCO qCR qSI qSR qMO qBO qPX qPY qPZ qSX dr bo po sx sy sw tx ty tz DR LA LE CE FI CO CR SI SR MO BO PX PY PZ SX) sz)) 0 0 (va_A (wMod G h0 qDR qLA qLE qCE qFI qCO qCR qSI qSR qMO qBO qPX qPY qPZ qSX dr bo po sx sy sw tx ty tz DR LA LE CE FI CO CR SI SR MO BO PX PY PZ SX) sz) := by
  refine Met.ofW (cc := cX9_drop) (maxL := 1) (ret := (some .int)) (by decide) rfl ?_
  intro p e s m args below meth c s₁ B hml hv
  obtain ⟨rfl, hsz, hP, hK, hD0⟩ := hv
  have hx := B.exec
  have hb := B.bytes
  have hr := B.returns
  have hts := atoms_spec (ws := wsX9_drop) B.pre
  have hown : s.vm.findClass RX9 = some m.cls := findClass_of_methodNamed B.named
  have hlocks := B.notSynchronized
  subst hsz
  have hD := hD0.self (sz := s.heap.size)
  generalize hAe : va_A (wMod G h0 qDR qLA qLE qCE qFI qCO qCR qSI qSR qMO qBO qPX qPY qPZ qSX dr bo po sx sy sw tx ty tz DR LA LE CE FI CO CR SI SR MO BO PX PY PZ SX) s.heap.size = A at hD ⊢
  have hA : ∀ q : Nat, s.heap.size ≤ q → A q := fun q h => by rw [← hAe]; exact Or.inr h
  have hS : va_S A s.heap s.heap [] := va_S.rf
  have hin9 : ∀ w ∈ u_ws RX9 TX9 24, w ∈ wsX9_drop := by decide +kernel
  have hfl124 := hts (.fieldLink RX9 124 "SwellBodiesModel" "bodies" "I") (by decide +kernel)
  have hl := lv_entry ([.ref h0]) (n := 1) (Nat.le_of_ble_eq_true rfl)
  rw [lg_entry_eq]
  generalize (lg_sl ([.ref h0]) ++ List.replicate (1 - (lg_sl ([.ref h0])).length) Slot.unset).toArray = ls at hl ⊢
  have hl : lv_has ls 1 [(0, .ref h0)] := hl
  unfold fX9_drop at hF
  refine lv_aload_n hx hb dX9_drop_0 rfl (lv_at hl 0 rfl) ?_
  refine va_get (ci := 9) (v := .int bo) (C := RX9) (T := TX9) (N := 24) hx hb hts hin9 hown hK hP 0 rfl rfl 5 (by decide) hfl124 (fun _ h9 => h9) rfl dX9_drop_1 ?_
  refine lv_if_ne (tgt := 10) hx hb dX9_drop_4 (by decide) (fun c_1 => ?_) (fun c_1 => ?_)
  · replace hF := it_n c_1 hF
    refine lv_aload_n hx hb dX9_drop_10 rfl (lv_at hl 0 rfl) ?_
    refine lv_dup hx hb dX9_drop_11 rfl ?_
    refine va_get (ci := 9) (v := .int bo) (C := RX9) (T := TX9) (N := 24) hx hb hts hin9 hown hK hP 0 rfl rfl 5 (by decide) hfl124 (fun _ h9 => h9) rfl dX9_drop_12 ?_
    refine lv_iconst (v := 1) hx hb dX9_drop_15 (by decide) ?_
    refine lv_isub hx hb dX9_drop_16 ?_
    refine va_put (ci := 9) (v := .int (bo - 1)) (ty := .int) (C := RX9) (T := TX9) (N := 24) hx hb hts hin9 tyX9 tyX9_ok nmX9 hown hK hP hD hS 0 rfl rfl 5 (by decide) hfl124 (fun _ h9 => h9) rfl (by decide +kernel) rfl rfl (Nat.le_of_ble_eq_true rfl) dX9_drop_17 (fun H locs hP hD hS => ?_)
    have hP : va_P (gD G) vwCl (wMod G h0 qDR qLA qLE qCE qFI qCO qCR qSI qSR qMO qBO qPX qPY qPZ qSX dr (bo - 1) po sx sy sw tx ty tz DR LA LE CE FI CO CR SI SR MO BO PX PY PZ SX) H := hP
    have hD : va_D A (wMod G h0 qDR qLA qLE qCE qFI qCO qCR qSI qSR qMO qBO qPX qPY qPZ qSX dr (bo - 1) po sx sy sw tx ty tz DR LA LE CE FI CO CR SI SR MO BO PX PY PZ SX) := hD
    refine lv_aload_n hx hb dX9_drop_20 rfl (lv_at hl 0 rfl) ?_
    refine va_get (ci := 9) (v := .int (bo - 1)) (C := RX9) (T := TX9) (N := 24) hx hb hts hin9 hown hK hP 0 rfl rfl 5 (by decide) hfl124 (fun _ h9 => h9) rfl dX9_drop_21 ?_
    exact W.iret (v := bo - 1) hx hb hr  (fun t ht hW => ⟨⟨bo - 1, bo - 1, rfl, ⟨congrArg Prod.fst (so_e hF), congrArg Prod.snd (so_e hF)⟩, qW_mk ht hP hK hW hD⟩, hS.F ht⟩) hS.2.2 dX9_drop_24
  · replace hF := it_p c_1 hF
    refine lv_bipush (v := (-4)) hx hb dX9_drop_7 (by decide) ?_
    exact W.iret (v := (-4)) hx hb hr  (fun t ht hW => ⟨⟨(-4), bo, rfl, ⟨congrArg Prod.fst (so_e hF), congrArg Prod.snd (so_e hF)⟩, qW_mk ht hP hK hW hD⟩, hS.F ht⟩) hS.2.2 dX9_drop_9
def fX9_is (bo : Int32) (p1 : Int32) : Option (Int32) :=
  (bd (fX9_in p1.toInt64 0 ((bo - 1).toInt64)) (fun v_1 => (some v_1)))
abbrev rX9_is : Room := { frames := 1, cells := 0, slots := 0, locals := 25 }
set_option maxHeartbeats 40000000 in
set_option maxRecDepth 100000 in
theorem kX9_is (l : Launch) (G : GT) (h0 qDR qLA qLE qCE qFI qCO qCR qSI qSR qMO qBO qPX qPY qPZ qSX : Nat) (dr : Int32) (bo : Int32) (po : Int32) (sx : Int32) (sy : Int32) (sw : Int32) (tx : Int32) (ty : Int32) (tz : Int32) (DR : Nat → Int32) (LA : Nat → Int32) (LE : Nat → Int32) (CE : Nat → Int64) (FI : Nat → Int32) (CO : Nat → Int32) (CR : Nat → Int32) (SI : Nat → Int32) (SR : Nat → Int32) (MO : Nat → Int32) (BO : Nat → Int32) (PX : Nat → Int32) (PY : Nat → Int32) (PZ : Nat → Int32) (SX : Nat → Int32) (p1 : Int32) (res : Int32) (hF : fX9_is bo p1 = some res) : Met l yX9_is wsX9_is rX9_is (va_Pc [.ref h0, .int p1] (pR G (wMod G h0 qDR qLA qLE qCE qFI qCO qCR qSI qSR qMO qBO qPX qPY qPZ qSX dr bo po sx sy sw tx ty tz DR LA LE CE FI CO CR SI SR MO BO PX PY PZ SX))) (vp_Si (fun r => r = res ∧ (r = 0 ∨ r = 1))) 0 0 (fun _ => False) := by
  refine Met.ofW (cc := cX9_is) (maxL := 2) (ret := (some .boolean)) (by decide) rfl ?_
  intro p e s m args below meth c s₁ B hml hv
  obtain ⟨rfl, hP, hK⟩ := hv
  have hx := B.exec
  have hb := B.bytes
  have hr := B.returns
  have hts := atoms_spec (ws := wsX9_is) B.pre
  have hown : s.vm.findClass RX9 = some m.cls := findClass_of_methodNamed B.named
  have hlocks := B.notSynchronized
  have hin9 : ∀ w ∈ u_ws RX9 TX9 24, w ∈ wsX9_is := by decide +kernel
  have hfl124 := hts (.fieldLink RX9 124 "SwellBodiesModel" "bodies" "I") (by decide +kernel)
  have hl := lv_entry ([.ref h0, .int p1]) (n := 2) (Nat.le_of_ble_eq_true rfl)
  rw [lg_entry_eq]
  generalize (lg_sl ([.ref h0, .int p1]) ++ List.replicate (2 - (lg_sl ([.ref h0, .int p1])).length) Slot.unset).toArray = ls at hl ⊢
  have hl : lv_has ls 2 [(0, .ref h0), (1, .int p1)] := hl
  unfold fX9_is at hF
  refine lv_iload_n hx hb dX9_is_0 rfl (lv_at hl 1 rfl) ?_
  refine lv_i2l hx hb dX9_is_1 rfl ?_
  refine lv_lconst (v := 0) hx hb dX9_is_2 (by decide) ?_
  refine lv_aload_n hx hb dX9_is_3 rfl (lv_at hl 0 rfl) ?_
  refine va_get (ci := 9) (v := .int bo) (C := RX9) (T := TX9) (N := 24) hx hb hts hin9 hown hK hP 0 rfl rfl 5 (by decide) hfl124 (fun _ h9 => h9) rfl dX9_is_4 ?_
  refine lv_iconst (v := 1) hx hb dX9_is_7 (by decide) ?_
  refine lv_isub hx hb dX9_is_8 ?_
  refine lv_i2l hx hb dX9_is_9 rfl ?_
  obtain ⟨v_1, hv_1, hF⟩ := bd_s hF
  refine ro_ze (va_runS (As := [.long p1.toInt64, .long 0, .long ((bo - 1).toInt64)]) (rest := []) ⟨hx, hb, hml, hown, hts⟩ (kX9_in l G p1.toInt64 0 ((bo - 1).toInt64) v_1 hv_1) (va_cwS 3 hts gX9_is_X9_in rfl rfl rfl (by decide +kernel) ⟨Nat.le_of_ble_eq_true rfl, Nat.le_of_ble_eq_true rfl⟩) (psR hK (hP.sub (ws' := ([] : va_W)) [] rfl)) rfl rfl hl.1 rfl (lv_room (Nat.le_of_ble_eq_true rfl)) dX9_is_10 ⟨Nat.le_of_ble_eq_true rfl, Nat.le_of_ble_eq_true rfl⟩) (fun hb_2 => ?_)
  exact W.zret (v := v_1) hx hb hr (by rcases hb_2 with h | h <;> rw [h] <;> rfl) (fun t ht hW => ⟨v_1, rfl, ⟨so_e hF, hb_2⟩, ht⟩) (fun q h => absurd h List.not_mem_nil) dX9_is_13
def JX9_least_48 (CO : Nat → Int32) (CR : Nat → Int32) (k7 : Int32 → Int32 → Int32 → Int32 → Option (Int32)) (a1 : Int32) (a2 : Int32) (a4 : Int32) (t0 : Int32) : Option (Int32) :=
  (k7 a1 a2 t0 (a4 + 1))
def LX9_least_7 (CO : Nat → Int32) (CR : Nat → Int32)  : Nat → Int32 → Int32 → Int32 → Int32 → Option (Int32)
  | 0, _, _, _, _ => none
  | k + 1, a1, a2, a3, a4 =>
  (gd_in a1 8 (if CO a1.toNatClampNeg ≤ a4 then (some a3) else (gd_in (((120 * a1) + (3 * a4)) + a2) 960 (cut (CR (((120 * a1) + (3 * a4)) + a2).toNatClampNeg) (fun c_4 => (if a3 ≤ c_4 then (JX9_least_48 CO CR (LX9_least_7 CO CR k) a1 a2 a4 a3) else (JX9_least_48 CO CR (LX9_least_7 CO CR k) a1 a2 a4 c_4)))))))
def fX9_least (CO : Nat → Int32) (CR : Nat → Int32) (p1 : Int32) (p2 : Int32) : Option (Int32) :=
  (LX9_least_7 CO CR FU p1 p2 1000 0)
abbrev rX9_least : Room := { frames := 0, cells := 0, slots := 0, locals := 0 }
set_option maxHeartbeats 40000000 in
set_option maxRecDepth 100000 in
theorem kX9_least (l : Launch) (G : GT) (h0 qDR qLA qLE qCE qFI qCO qCR qSI qSR qMO qBO qPX qPY qPZ qSX : Nat) (dr : Int32) (bo : Int32) (po : Int32) (sx : Int32) (sy : Int32) (sw : Int32) (tx : Int32) (ty : Int32) (tz : Int32) (DR : Nat → Int32) (LA : Nat → Int32) (LE : Nat → Int32) (CE : Nat → Int64) (FI : Nat → Int32) (CO : Nat → Int32) (CR : Nat → Int32) (SI : Nat → Int32) (SR : Nat → Int32) (MO : Nat → Int32) (BO : Nat → Int32) (PX : Nat → Int32) (PY : Nat → Int32) (PZ : Nat → Int32) (SX : Nat → Int32) (p1 : Int32) (p2 : Int32) (res : Int32) (hF : fX9_least CO CR p1 p2 = some res) : Met l yX9_least wsX9_least rX9_least (va_Pc [.ref h0, .int p1, .int p2] (pR G (wMod G h0 qDR qLA qLE qCE qFI qCO qCR qSI qSR qMO qBO qPX qPY qPZ qSX dr bo po sx sy sw tx ty tz DR LA LE CE FI CO CR SI SR MO BO PX PY PZ SX))) (vp_Si (fun r => r = res)) 0 0 (fun _ => False) := by
  refine Met.ofW (cc := cX9_least) (maxL := 6) (ret := (some .int)) (by decide) rfl ?_
  intro p e s m args below meth c s₁ B hml hv
  obtain ⟨rfl, hP, hK⟩ := hv
  have hx := B.exec
  have hb := B.bytes
  have hr := B.returns
  have hts := atoms_spec (ws := wsX9_least) B.pre
  have hown : s.vm.findClass RX9 = some m.cls := findClass_of_methodNamed B.named
  have hlocks := B.notSynchronized
  have hin9 : ∀ w ∈ u_ws RX9 TX9 24, w ∈ wsX9_least := by decide +kernel
  have hfl26 := hts (.fieldLink RX9 26 "SwellBodiesModel" "corners" "[I") (by decide +kernel)
  have hfl29 := hts (.fieldLink RX9 29 "SwellBodiesModel" "cornerRow" "[I") (by decide +kernel)
  have hl := lv_entry ([.ref h0, .int p1, .int p2]) (n := 6) (Nat.le_of_ble_eq_true rfl)
  rw [lg_entry_eq]
  generalize (lg_sl ([.ref h0, .int p1, .int p2]) ++ List.replicate (6 - (lg_sl ([.ref h0, .int p1, .int p2])).length) Slot.unset).toArray = ls at hl ⊢
  have hl : lv_has ls 6 [(0, .ref h0), (1, .int p1), (2, .int p2)] := hl
  have hJ48 : ∀ (k7 : Int32 → Int32 → Int32 → Int32 → Option (Int32)), (∀ (a1 : Int32) (a2 : Int32) (a3 : Int32) (a4 : Int32) (ls : Array Slot), k7 a1 a2 a3 a4 = some res → lv_has ls 6 [(0, .ref h0), (1, .int a1), (2, .int a2), (3, .int a3), (4, .int a4)] → W p l e (headSpec wsX9_least rX9_least).room s m ([.ref h0, .int p1, .int p2] : List Value).toArray below meth c s.heap [] 0 0 (MQ below (vp_Si (fun r => r = res)) ([.ref h0, .int p1, .int p2] : List Value).toArray s 0 0 (fun _ => False)) (F0 m 7 ls [])) → ∀ (a1 : Int32) (a2 : Int32) (a4 : Int32) (t0 : Int32) (ls : Array Slot), JX9_least_48 CO CR k7 a1 a2 a4 t0 = some res → lv_has ls 6 [(0, .ref h0), (1, .int a1), (2, .int a2), (4, .int a4)] → W p l e (headSpec wsX9_least rX9_least).room s m ([.ref h0, .int p1, .int p2] : List Value).toArray below meth c s.heap [] 0 0 (MQ below (vp_Si (fun r => r = res)) ([.ref h0, .int p1, .int p2] : List Value).toArray s 0 0 (fun _ => False)) (F0 m 48 ls [.int t0]) := by
    intro k7 hk7
    intro a1 a2 a4 t0 ls hF hl
    unfold JX9_least_48 at hF
    refine lv_istore_n (lv' := [(3, .int t0), (0, .ref h0), (1, .int a1), (2, .int a2), (4, .int a4)]) hx hb dX9_least_48 rfl hl (by decide) rfl (fun ls hl => ?_)
    refine lv_iinc (v := a4 + 1) (lv' := [(4, .int (a4 + 1)), (3, .int t0), (0, .ref h0), (1, .int a1), (2, .int a2)]) hx hb dX9_least_49 hl (k := 4) rfl rfl (by decide) rfl (fun ls hl => ?_)
    refine lv_goto (tgt := 7) hx hb dX9_least_52 (by decide) ?_
    exact hk7 a1 a2 t0 (a4 + 1) _ hF (lv_sub hl [2, 3, 4, 1, 0] rfl)
  have hL7 : ∀ (k : Nat), ∀ (a1 : Int32) (a2 : Int32) (a3 : Int32) (a4 : Int32) (ls : Array Slot), LX9_least_7 CO CR k a1 a2 a3 a4 = some res → lv_has ls 6 [(0, .ref h0), (1, .int a1), (2, .int a2), (3, .int a3), (4, .int a4)] → W p l e (headSpec wsX9_least rX9_least).room s m ([.ref h0, .int p1, .int p2] : List Value).toArray below meth c s.heap [] 0 0 (MQ below (vp_Si (fun r => r = res)) ([.ref h0, .int p1, .int p2] : List Value).toArray s 0 0 (fun _ => False)) (F0 m 7 ls []) := by
    intro k
    induction k with
    | zero =>
      intro a1 a2 a3 a4 ls hF hl
      rw [LX9_least_7] at hF
      cases hF
    | succ k ih =>
      intro a1 a2 a3 a4 ls hF hl
      rw [LX9_least_7] at hF
      refine lv_iload hx hb dX9_least_7 (lv_at hl 4 rfl) ?_
      refine lv_aload_n hx hb dX9_least_9 rfl (lv_at hl 0 rfl) ?_
      refine va_get (ci := 9) (v := .ref qCO) (C := RX9) (T := TX9) (N := 24) hx hb hts hin9 hown hK hP 0 rfl rfl 7 (by decide) hfl26 (fun _ h9 => h9) rfl dX9_least_10 ?_
      refine lv_iload_n hx hb dX9_least_13 rfl (lv_at hl 1 rfl) ?_
      obtain ⟨hi_1, hF⟩ := gd_in_s hF
      refine va_iald hx hb hK hP 6 0 rfl rfl hi_1 dX9_least_14 ?_
      refine lv_icmp_ge (tgt := 55) hx hb dX9_least_15 (by decide) (fun c_2 => ?_) (fun c_2 => ?_)
      · replace hF := it_p c_2 hF
        refine lv_iload_n hx hb dX9_least_55 rfl (lv_at hl 3 rfl) ?_
        exact W.iret (v := a3) hx hb hr  (fun t ht hW => ⟨a3, rfl, (so_e hF), ht⟩) (fun q h => absurd h List.not_mem_nil) dX9_least_56
      · replace hF := it_n c_2 hF
        refine lv_aload_n hx hb dX9_least_18 rfl (lv_at hl 0 rfl) ?_
        refine va_get (ci := 9) (v := .ref qCR) (C := RX9) (T := TX9) (N := 24) hx hb hts hin9 hown hK hP 0 rfl rfl 8 (by decide) hfl29 (fun _ h9 => h9) rfl dX9_least_19 ?_
        refine lv_bipush (v := 120) hx hb dX9_least_22 (by decide) ?_
        refine lv_iload_n hx hb dX9_least_24 rfl (lv_at hl 1 rfl) ?_
        refine lv_imul hx hb dX9_least_25 ?_
        refine lv_iconst (v := 3) hx hb dX9_least_26 (by decide) ?_
        refine lv_iload hx hb dX9_least_27 (lv_at hl 4 rfl) ?_
        refine lv_imul hx hb dX9_least_29 ?_
        refine lv_iadd hx hb dX9_least_30 ?_
        refine lv_iload_n hx hb dX9_least_31 rfl (lv_at hl 2 rfl) ?_
        refine lv_iadd hx hb dX9_least_32 ?_
        obtain ⟨hi_3, hF⟩ := gd_in_s hF
        refine va_iald hx hb hK hP 7 0 rfl rfl hi_3 dX9_least_33 ?_
        refine lv_topi (fun c_4 ec_4 => ?_)
        replace hF := cut_at ec_4 hF
        refine lv_istore (lv' := [(5, .int c_4), (0, .ref h0), (1, .int a1), (2, .int a2), (3, .int a3), (4, .int a4)]) hx hb dX9_least_34 hl (by decide) rfl (fun ls hl => ?_)
        refine lv_iload hx hb dX9_least_36 (lv_at hl 0 rfl) ?_
        refine lv_iload_n hx hb dX9_least_38 rfl (lv_at hl 4 rfl) ?_
        refine lv_icmp_ge (tgt := 47) hx hb dX9_least_39 (by decide) (fun c_5 => ?_) (fun c_5 => ?_)
        · replace hF := it_p c_5 hF
          refine lv_iload_n hx hb dX9_least_47 rfl (lv_at hl 4 rfl) ?_
          exact hJ48 _ ih a1 a2 a4 a3 _ hF (lv_sub hl [1, 2, 3, 5] rfl)
        · replace hF := it_n c_5 hF
          refine lv_iload hx hb dX9_least_42 (lv_at hl 0 rfl) ?_
          refine lv_goto (tgt := 48) hx hb dX9_least_44 (by decide) ?_
          exact hJ48 _ ih a1 a2 a4 c_4 _ hF (lv_sub hl [1, 2, 3, 5] rfl)
  unfold fX9_least at hF
  refine lv_sipush (v := 1000) hx hb dX9_least_0 (by decide) ?_
  refine lv_istore_n (lv' := [(3, .int 1000), (0, .ref h0), (1, .int p1), (2, .int p2)]) hx hb dX9_least_3 rfl hl (by decide) rfl (fun ls hl => ?_)
  refine lv_iconst (v := 0) hx hb dX9_least_4 (by decide) ?_
  refine lv_istore (lv' := [(4, .int 0), (3, .int 1000), (0, .ref h0), (1, .int p1), (2, .int p2)]) hx hb dX9_least_5 hl (by decide) rfl (fun ls hl => ?_)
  exact hL7 FU p1 p2 1000 0 _ hF (lv_sub hl [2, 3, 4, 1, 0] rfl)
def JX9_greatest_48 (CO : Nat → Int32) (CR : Nat → Int32) (k7 : Int32 → Int32 → Int32 → Int32 → Option (Int32)) (a1 : Int32) (a2 : Int32) (a4 : Int32) (t0 : Int32) : Option (Int32) :=
  (k7 a1 a2 t0 (a4 + 1))
def LX9_greatest_7 (CO : Nat → Int32) (CR : Nat → Int32)  : Nat → Int32 → Int32 → Int32 → Int32 → Option (Int32)
  | 0, _, _, _, _ => none
  | k + 1, a1, a2, a3, a4 =>
  (gd_in a1 8 (if CO a1.toNatClampNeg ≤ a4 then (some a3) else (gd_in (((120 * a1) + (3 * a4)) + a2) 960 (cut (CR (((120 * a1) + (3 * a4)) + a2).toNatClampNeg) (fun c_4 => (if c_4 ≤ a3 then (JX9_greatest_48 CO CR (LX9_greatest_7 CO CR k) a1 a2 a4 a3) else (JX9_greatest_48 CO CR (LX9_greatest_7 CO CR k) a1 a2 a4 c_4)))))))
def fX9_greatest (CO : Nat → Int32) (CR : Nat → Int32) (p1 : Int32) (p2 : Int32) : Option (Int32) :=
  (LX9_greatest_7 CO CR FU p1 p2 (-1000) 0)
abbrev rX9_greatest : Room := { frames := 0, cells := 0, slots := 0, locals := 0 }
set_option maxHeartbeats 40000000 in
set_option maxRecDepth 100000 in
theorem kX9_greatest (l : Launch) (G : GT) (h0 qDR qLA qLE qCE qFI qCO qCR qSI qSR qMO qBO qPX qPY qPZ qSX : Nat) (dr : Int32) (bo : Int32) (po : Int32) (sx : Int32) (sy : Int32) (sw : Int32) (tx : Int32) (ty : Int32) (tz : Int32) (DR : Nat → Int32) (LA : Nat → Int32) (LE : Nat → Int32) (CE : Nat → Int64) (FI : Nat → Int32) (CO : Nat → Int32) (CR : Nat → Int32) (SI : Nat → Int32) (SR : Nat → Int32) (MO : Nat → Int32) (BO : Nat → Int32) (PX : Nat → Int32) (PY : Nat → Int32) (PZ : Nat → Int32) (SX : Nat → Int32) (p1 : Int32) (p2 : Int32) (res : Int32) (hF : fX9_greatest CO CR p1 p2 = some res) : Met l yX9_greatest wsX9_greatest rX9_greatest (va_Pc [.ref h0, .int p1, .int p2] (pR G (wMod G h0 qDR qLA qLE qCE qFI qCO qCR qSI qSR qMO qBO qPX qPY qPZ qSX dr bo po sx sy sw tx ty tz DR LA LE CE FI CO CR SI SR MO BO PX PY PZ SX))) (vp_Si (fun r => r = res)) 0 0 (fun _ => False) := by
  refine Met.ofW (cc := cX9_greatest) (maxL := 6) (ret := (some .int)) (by decide) rfl ?_
  intro p e s m args below meth c s₁ B hml hv
  obtain ⟨rfl, hP, hK⟩ := hv
  have hx := B.exec
  have hb := B.bytes
  have hr := B.returns
  have hts := atoms_spec (ws := wsX9_greatest) B.pre
  have hown : s.vm.findClass RX9 = some m.cls := findClass_of_methodNamed B.named
  have hlocks := B.notSynchronized
  have hin9 : ∀ w ∈ u_ws RX9 TX9 24, w ∈ wsX9_greatest := by decide +kernel
  have hfl26 := hts (.fieldLink RX9 26 "SwellBodiesModel" "corners" "[I") (by decide +kernel)
  have hfl29 := hts (.fieldLink RX9 29 "SwellBodiesModel" "cornerRow" "[I") (by decide +kernel)
  have hl := lv_entry ([.ref h0, .int p1, .int p2]) (n := 6) (Nat.le_of_ble_eq_true rfl)
  rw [lg_entry_eq]
  generalize (lg_sl ([.ref h0, .int p1, .int p2]) ++ List.replicate (6 - (lg_sl ([.ref h0, .int p1, .int p2])).length) Slot.unset).toArray = ls at hl ⊢
  have hl : lv_has ls 6 [(0, .ref h0), (1, .int p1), (2, .int p2)] := hl
  have hJ48 : ∀ (k7 : Int32 → Int32 → Int32 → Int32 → Option (Int32)), (∀ (a1 : Int32) (a2 : Int32) (a3 : Int32) (a4 : Int32) (ls : Array Slot), k7 a1 a2 a3 a4 = some res → lv_has ls 6 [(0, .ref h0), (1, .int a1), (2, .int a2), (3, .int a3), (4, .int a4)] → W p l e (headSpec wsX9_greatest rX9_greatest).room s m ([.ref h0, .int p1, .int p2] : List Value).toArray below meth c s.heap [] 0 0 (MQ below (vp_Si (fun r => r = res)) ([.ref h0, .int p1, .int p2] : List Value).toArray s 0 0 (fun _ => False)) (F0 m 7 ls [])) → ∀ (a1 : Int32) (a2 : Int32) (a4 : Int32) (t0 : Int32) (ls : Array Slot), JX9_greatest_48 CO CR k7 a1 a2 a4 t0 = some res → lv_has ls 6 [(0, .ref h0), (1, .int a1), (2, .int a2), (4, .int a4)] → W p l e (headSpec wsX9_greatest rX9_greatest).room s m ([.ref h0, .int p1, .int p2] : List Value).toArray below meth c s.heap [] 0 0 (MQ below (vp_Si (fun r => r = res)) ([.ref h0, .int p1, .int p2] : List Value).toArray s 0 0 (fun _ => False)) (F0 m 48 ls [.int t0]) := by
    intro k7 hk7
    intro a1 a2 a4 t0 ls hF hl
    unfold JX9_greatest_48 at hF
    refine lv_istore_n (lv' := [(3, .int t0), (0, .ref h0), (1, .int a1), (2, .int a2), (4, .int a4)]) hx hb dX9_greatest_48 rfl hl (by decide) rfl (fun ls hl => ?_)
    refine lv_iinc (v := a4 + 1) (lv' := [(4, .int (a4 + 1)), (3, .int t0), (0, .ref h0), (1, .int a1), (2, .int a2)]) hx hb dX9_greatest_49 hl (k := 4) rfl rfl (by decide) rfl (fun ls hl => ?_)
    refine lv_goto (tgt := 7) hx hb dX9_greatest_52 (by decide) ?_
    exact hk7 a1 a2 t0 (a4 + 1) _ hF (lv_sub hl [2, 3, 4, 1, 0] rfl)
  have hL7 : ∀ (k : Nat), ∀ (a1 : Int32) (a2 : Int32) (a3 : Int32) (a4 : Int32) (ls : Array Slot), LX9_greatest_7 CO CR k a1 a2 a3 a4 = some res → lv_has ls 6 [(0, .ref h0), (1, .int a1), (2, .int a2), (3, .int a3), (4, .int a4)] → W p l e (headSpec wsX9_greatest rX9_greatest).room s m ([.ref h0, .int p1, .int p2] : List Value).toArray below meth c s.heap [] 0 0 (MQ below (vp_Si (fun r => r = res)) ([.ref h0, .int p1, .int p2] : List Value).toArray s 0 0 (fun _ => False)) (F0 m 7 ls []) := by
    intro k
    induction k with
    | zero =>
      intro a1 a2 a3 a4 ls hF hl
      rw [LX9_greatest_7] at hF
      cases hF
    | succ k ih =>
      intro a1 a2 a3 a4 ls hF hl
      rw [LX9_greatest_7] at hF
      refine lv_iload hx hb dX9_greatest_7 (lv_at hl 4 rfl) ?_
      refine lv_aload_n hx hb dX9_greatest_9 rfl (lv_at hl 0 rfl) ?_
      refine va_get (ci := 9) (v := .ref qCO) (C := RX9) (T := TX9) (N := 24) hx hb hts hin9 hown hK hP 0 rfl rfl 7 (by decide) hfl26 (fun _ h9 => h9) rfl dX9_greatest_10 ?_
      refine lv_iload_n hx hb dX9_greatest_13 rfl (lv_at hl 1 rfl) ?_
      obtain ⟨hi_1, hF⟩ := gd_in_s hF
      refine va_iald hx hb hK hP 6 0 rfl rfl hi_1 dX9_greatest_14 ?_
      refine lv_icmp_ge (tgt := 55) hx hb dX9_greatest_15 (by decide) (fun c_2 => ?_) (fun c_2 => ?_)
      · replace hF := it_p c_2 hF
        refine lv_iload_n hx hb dX9_greatest_55 rfl (lv_at hl 3 rfl) ?_
        exact W.iret (v := a3) hx hb hr  (fun t ht hW => ⟨a3, rfl, (so_e hF), ht⟩) (fun q h => absurd h List.not_mem_nil) dX9_greatest_56
      · replace hF := it_n c_2 hF
        refine lv_aload_n hx hb dX9_greatest_18 rfl (lv_at hl 0 rfl) ?_
        refine va_get (ci := 9) (v := .ref qCR) (C := RX9) (T := TX9) (N := 24) hx hb hts hin9 hown hK hP 0 rfl rfl 8 (by decide) hfl29 (fun _ h9 => h9) rfl dX9_greatest_19 ?_
        refine lv_bipush (v := 120) hx hb dX9_greatest_22 (by decide) ?_
        refine lv_iload_n hx hb dX9_greatest_24 rfl (lv_at hl 1 rfl) ?_
        refine lv_imul hx hb dX9_greatest_25 ?_
        refine lv_iconst (v := 3) hx hb dX9_greatest_26 (by decide) ?_
        refine lv_iload hx hb dX9_greatest_27 (lv_at hl 4 rfl) ?_
        refine lv_imul hx hb dX9_greatest_29 ?_
        refine lv_iadd hx hb dX9_greatest_30 ?_
        refine lv_iload_n hx hb dX9_greatest_31 rfl (lv_at hl 2 rfl) ?_
        refine lv_iadd hx hb dX9_greatest_32 ?_
        obtain ⟨hi_3, hF⟩ := gd_in_s hF
        refine va_iald hx hb hK hP 7 0 rfl rfl hi_3 dX9_greatest_33 ?_
        refine lv_topi (fun c_4 ec_4 => ?_)
        replace hF := cut_at ec_4 hF
        refine lv_istore (lv' := [(5, .int c_4), (0, .ref h0), (1, .int a1), (2, .int a2), (3, .int a3), (4, .int a4)]) hx hb dX9_greatest_34 hl (by decide) rfl (fun ls hl => ?_)
        refine lv_iload hx hb dX9_greatest_36 (lv_at hl 0 rfl) ?_
        refine lv_iload_n hx hb dX9_greatest_38 rfl (lv_at hl 4 rfl) ?_
        refine lv_icmp_le (tgt := 47) hx hb dX9_greatest_39 (by decide) (fun c_5 => ?_) (fun c_5 => ?_)
        · replace hF := it_p c_5 hF
          refine lv_iload_n hx hb dX9_greatest_47 rfl (lv_at hl 4 rfl) ?_
          exact hJ48 _ ih a1 a2 a4 a3 _ hF (lv_sub hl [1, 2, 3, 5] rfl)
        · replace hF := it_n c_5 hF
          refine lv_iload hx hb dX9_greatest_42 (lv_at hl 0 rfl) ?_
          refine lv_goto (tgt := 48) hx hb dX9_greatest_44 (by decide) ?_
          exact hJ48 _ ih a1 a2 a4 c_4 _ hF (lv_sub hl [1, 2, 3, 5] rfl)
  unfold fX9_greatest at hF
  refine lv_sipush (v := (-1000)) hx hb dX9_greatest_0 (by decide) ?_
  refine lv_istore_n (lv' := [(3, .int (-1000)), (0, .ref h0), (1, .int p1), (2, .int p2)]) hx hb dX9_greatest_3 rfl hl (by decide) rfl (fun ls hl => ?_)
  refine lv_iconst (v := 0) hx hb dX9_greatest_4 (by decide) ?_
  refine lv_istore (lv' := [(4, .int 0), (3, .int (-1000)), (0, .ref h0), (1, .int p1), (2, .int p2)]) hx hb dX9_greatest_5 hl (by decide) rfl (fun ls hl => ?_)
  exact hL7 FU p1 p2 (-1000) 0 _ hF (lv_sub hl [2, 3, 4, 1, 0] rfl)
def JX9_where_323 (FI : Nat → Int32) (CR : Nat → Int32) (SI : Nat → Int32) (SR : Nat → Int32) (BO : Nat → Int32) (k224 : Int32 → Int64 → Int64 → Int64 → Int64 → Int32 → Int32 → Option (Int32)) (a1 : Int32) (a2 : Int64) (a4 : Int64) (a6 : Int64) (a8 : Int64) (a24 : Int32) (t0 : Int32) : Option (Int32) :=
  (k224 a1 a2 a4 a6 a8 t0 (a24 + 1))
def LX9_where_224 (FI : Nat → Int32) (CR : Nat → Int32) (SI : Nat → Int32) (SR : Nat → Int32) (BO : Nat → Int32)  : Nat → Int32 → Int64 → Int64 → Int64 → Int64 → Int32 → Int32 → Option (Int32)
  | 0, _, _, _, _, _, _, _ => none
  | k + 1, a1, a2, a4, a6, a8, a23, a24 =>
  (gd_in a1 8 (if SI a1.toNatClampNeg ≤ a24 then (some a23) else (gd_in ((360 * a1) + (4 * a24)) 2880 (gd_in (((360 * a1) + (4 * a24)) + 1) 2880 (gd_in (((360 * a1) + (4 * a24)) + 2) 2880 (gd_in (((360 * a1) + (4 * a24)) + 3) 2880 (cut ((((((SR ((360 * a1) + (4 * a24)).toNatClampNeg).toInt64) * a2) + (((SR (((360 * a1) + (4 * a24)) + 1).toNatClampNeg).toInt64) * a4)) + (((SR (((360 * a1) + (4 * a24)) + 2).toNatClampNeg).toInt64) * a6)) - (a8 * ((SR (((360 * a1) + (4 * a24)) + 3).toNatClampNeg).toInt64))) (fun c_23 => (if lg_cmp c_23 0 ≤ 0 then (if lg_cmp c_23 0 = 0 then (JX9_where_323 FI CR SI SR BO (LX9_where_224 FI CR SI SR BO k) a1 a2 a4 a6 a8 a24 1) else (JX9_where_323 FI CR SI SR BO (LX9_where_224 FI CR SI SR BO k) a1 a2 a4 a6 a8 a24 a23)) else (some 0))))))))))
def JX9_where_218 (FI : Nat → Int32) (CR : Nat → Int32) (SI : Nat → Int32) (SR : Nat → Int32) (BO : Nat → Int32)  (a1 : Int32) (a2 : Int64) (a4 : Int64) (a6 : Int64) (a8 : Int64) : Option (Int32) :=
  (LX9_where_224 FI CR SI SR BO FU a1 a2 a4 a6 a8 2 0)
def JX9_where_184 (FI : Nat → Int32) (CR : Nat → Int32) (SI : Nat → Int32) (SR : Nat → Int32) (BO : Nat → Int32)  (a1 : Int32) (a2 : Int64) (a4 : Int64) (a6 : Int64) (a8 : Int64) (a11 : Int64) (a13 : Int64) (a15 : Int64) (a17 : Int64) (a19 : Int64) (a21 : Int64) : Option (Int32) :=
  (gd_in a1 8 (if FI a1.toNatClampNeg = 2 then (if lg_cmp (((a17 * a11) + (a19 * a13)) + (a21 * a15)) 0 = 0 then (JX9_where_218 FI CR SI SR BO a1 a2 a4 a6 a8) else (some 0)) else (JX9_where_218 FI CR SI SR BO a1 a2 a4 a6 a8)))
def fX9_where (FI : Nat → Int32) (CR : Nat → Int32) (SI : Nat → Int32) (SR : Nat → Int32) (BO : Nat → Int32) (p1 : Int32) (p2 : Int64) (p3 : Int64) (p4 : Int64) (p5 : Int64) : Option (Int32) :=
  (gd_in (120 * p1) 960 (cut (p2 - (p5 * ((CR (120 * p1).toNatClampNeg).toInt64))) (fun c_2 => (gd_in ((120 * p1) + 1) 960 (cut (p3 - (p5 * ((CR ((120 * p1) + 1).toNatClampNeg).toInt64))) (fun c_4 => (gd_in ((120 * p1) + 2) 960 (cut (p4 - (p5 * ((CR ((120 * p1) + 2).toNatClampNeg).toInt64))) (fun c_6 => (gd_in (4 * p1) 32 (gd_in ((4 * p1) + 1) 32 (cut ((BO ((4 * p1) + 1).toNatClampNeg).toInt64) (fun c_9 => (gd_in ((4 * p1) + 2) 32 (cut ((BO ((4 * p1) + 2).toNatClampNeg).toInt64) (fun c_11 => (gd_in p1 8 (if FI p1.toNatClampNeg = 0 then (if lg_cmp c_2 0 = 0 then (if lg_cmp c_4 0 = 0 then (if lg_cmp c_6 0 = 0 then (some 2) else (some 0)) else (some 0)) else (some 0)) else (if FI p1.toNatClampNeg = 1 then (if lg_cmp (c_4 * c_11) (c_6 * c_9) = 0 then (if lg_cmp (c_6 * ((BO (4 * p1).toNatClampNeg).toInt64)) (c_2 * c_11) = 0 then (if lg_cmp (c_2 * c_9) (c_4 * ((BO (4 * p1).toNatClampNeg).toInt64)) = 0 then (JX9_where_184 FI CR SI SR BO p1 p2 p3 p4 p5 c_2 c_4 c_6 ((BO (4 * p1).toNatClampNeg).toInt64) c_9 c_11) else (some 0)) else (some 0)) else (some 0)) else (JX9_where_184 FI CR SI SR BO p1 p2 p3 p4 p5 c_2 c_4 c_6 ((BO (4 * p1).toNatClampNeg).toInt64) c_9 c_11))))))))))))))))))))
abbrev rX9_where : Room := { frames := 0, cells := 0, slots := 0, locals := 0 }
set_option maxHeartbeats 40000000 in
set_option maxRecDepth 100000 in
theorem kX9_where (l : Launch) (G : GT) (h0 qDR qLA qLE qCE qFI qCO qCR qSI qSR qMO qBO qPX qPY qPZ qSX : Nat) (dr : Int32) (bo : Int32) (po : Int32) (sx : Int32) (sy : Int32) (sw : Int32) (tx : Int32) (ty : Int32) (tz : Int32) (DR : Nat → Int32) (LA : Nat → Int32) (LE : Nat → Int32) (CE : Nat → Int64) (FI : Nat → Int32) (CO : Nat → Int32) (CR : Nat → Int32) (SI : Nat → Int32) (SR : Nat → Int32) (MO : Nat → Int32) (BO : Nat → Int32) (PX : Nat → Int32) (PY : Nat → Int32) (PZ : Nat → Int32) (SX : Nat → Int32) (p1 : Int32) (p2 : Int64) (p3 : Int64) (p4 : Int64) (p5 : Int64) (res : Int32) (hF : fX9_where FI CR SI SR BO p1 p2 p3 p4 p5 = some res) : Met l yX9_where wsX9_where rX9_where (va_Pc [.ref h0, .int p1, .long p2, .long p3, .long p4, .long p5] (pR G (wMod G h0 qDR qLA qLE qCE qFI qCO qCR qSI qSR qMO qBO qPX qPY qPZ qSX dr bo po sx sy sw tx ty tz DR LA LE CE FI CO CR SI SR MO BO PX PY PZ SX))) (vp_Si (fun r => r = res)) 0 0 (fun _ => False) := by
  refine Met.ofW (cc := cX9_where) (maxL := 28) (ret := (some .int)) (by decide) rfl ?_
  intro p e s m args below meth c s₁ B hml hv
  obtain ⟨rfl, hP, hK⟩ := hv
  have hx := B.exec
  have hb := B.bytes
  have hr := B.returns
  have hts := atoms_spec (ws := wsX9_where) B.pre
  have hown : s.vm.findClass RX9 = some m.cls := findClass_of_methodNamed B.named
  have hlocks := B.notSynchronized
  have hin9 : ∀ w ∈ u_ws RX9 TX9 24, w ∈ wsX9_where := by decide +kernel
  have hfl29 := hts (.fieldLink RX9 29 "SwellBodiesModel" "cornerRow" "[I") (by decide +kernel)
  have hfl41 := hts (.fieldLink RX9 41 "SwellBodiesModel" "bond" "[I") (by decide +kernel)
  have hfl23 := hts (.fieldLink RX9 23 "SwellBodiesModel" "fills" "[I") (by decide +kernel)
  have hfl32 := hts (.fieldLink RX9 32 "SwellBodiesModel" "sides" "[I") (by decide +kernel)
  have hfl35 := hts (.fieldLink RX9 35 "SwellBodiesModel" "sideRow" "[I") (by decide +kernel)
  have hl := lv_entry ([.ref h0, .int p1, .long p2, .long p3, .long p4, .long p5]) (n := 28) (Nat.le_of_ble_eq_true rfl)
  rw [lg_entry_eq]
  generalize (lg_sl ([.ref h0, .int p1, .long p2, .long p3, .long p4, .long p5]) ++ List.replicate (28 - (lg_sl ([.ref h0, .int p1, .long p2, .long p3, .long p4, .long p5])).length) Slot.unset).toArray = ls at hl ⊢
  have hl : lv_has ls 28 [(0, .ref h0), (1, .int p1), (2, .long p2), (4, .long p3), (6, .long p4), (8, .long p5)] := hl
  have hJ323 : ∀ (k224 : Int32 → Int64 → Int64 → Int64 → Int64 → Int32 → Int32 → Option (Int32)), (∀ (a1 : Int32) (a2 : Int64) (a4 : Int64) (a6 : Int64) (a8 : Int64) (a23 : Int32) (a24 : Int32) (ls : Array Slot), k224 a1 a2 a4 a6 a8 a23 a24 = some res → lv_has ls 28 [(0, .ref h0), (1, .int a1), (2, .long a2), (4, .long a4), (6, .long a6), (8, .long a8), (23, .int a23), (24, .int a24)] → W p l e (headSpec wsX9_where rX9_where).room s m ([.ref h0, .int p1, .long p2, .long p3, .long p4, .long p5] : List Value).toArray below meth c s.heap [] 0 0 (MQ below (vp_Si (fun r => r = res)) ([.ref h0, .int p1, .long p2, .long p3, .long p4, .long p5] : List Value).toArray s 0 0 (fun _ => False)) (F0 m 224 ls [])) → ∀ (a1 : Int32) (a2 : Int64) (a4 : Int64) (a6 : Int64) (a8 : Int64) (a24 : Int32) (t0 : Int32) (ls : Array Slot), JX9_where_323 FI CR SI SR BO k224 a1 a2 a4 a6 a8 a24 t0 = some res → lv_has ls 28 [(0, .ref h0), (1, .int a1), (2, .long a2), (4, .long a4), (6, .long a6), (8, .long a8), (24, .int a24)] → W p l e (headSpec wsX9_where rX9_where).room s m ([.ref h0, .int p1, .long p2, .long p3, .long p4, .long p5] : List Value).toArray below meth c s.heap [] 0 0 (MQ below (vp_Si (fun r => r = res)) ([.ref h0, .int p1, .long p2, .long p3, .long p4, .long p5] : List Value).toArray s 0 0 (fun _ => False)) (F0 m 323 ls [.int t0]) := by
    intro k224 hk224
    intro a1 a2 a4 a6 a8 a24 t0 ls hF hl
    unfold JX9_where_323 at hF
    refine lv_istore (lv' := [(23, .int t0), (0, .ref h0), (1, .int a1), (2, .long a2), (4, .long a4), (6, .long a6), (8, .long a8), (24, .int a24)]) hx hb dX9_where_323 hl (by decide) rfl (fun ls hl => ?_)
    refine lv_iinc (v := a24 + 1) (lv' := [(24, .int (a24 + 1)), (23, .int t0), (0, .ref h0), (1, .int a1), (2, .long a2), (4, .long a4), (6, .long a6), (8, .long a8)]) hx hb dX9_where_325 hl (k := 7) rfl rfl (by decide) rfl (fun ls hl => ?_)
    refine lv_goto (tgt := 224) hx hb dX9_where_328 (by decide) ?_
    exact hk224 a1 a2 a4 a6 a8 t0 (a24 + 1) _ hF (lv_sub hl [2, 3, 4, 5, 6, 7, 1, 0] rfl)
  have hL224 : ∀ (k : Nat), ∀ (a1 : Int32) (a2 : Int64) (a4 : Int64) (a6 : Int64) (a8 : Int64) (a23 : Int32) (a24 : Int32) (ls : Array Slot), LX9_where_224 FI CR SI SR BO k a1 a2 a4 a6 a8 a23 a24 = some res → lv_has ls 28 [(0, .ref h0), (1, .int a1), (2, .long a2), (4, .long a4), (6, .long a6), (8, .long a8), (23, .int a23), (24, .int a24)] → W p l e (headSpec wsX9_where rX9_where).room s m ([.ref h0, .int p1, .long p2, .long p3, .long p4, .long p5] : List Value).toArray below meth c s.heap [] 0 0 (MQ below (vp_Si (fun r => r = res)) ([.ref h0, .int p1, .long p2, .long p3, .long p4, .long p5] : List Value).toArray s 0 0 (fun _ => False)) (F0 m 224 ls []) := by
    intro k
    induction k with
    | zero =>
      intro a1 a2 a4 a6 a8 a23 a24 ls hF hl
      rw [LX9_where_224] at hF
      cases hF
    | succ k ih =>
      intro a1 a2 a4 a6 a8 a23 a24 ls hF hl
      rw [LX9_where_224] at hF
      refine lv_iload hx hb dX9_where_224 (lv_at hl 7 rfl) ?_
      refine lv_aload_n hx hb dX9_where_226 rfl (lv_at hl 0 rfl) ?_
      refine va_get (ci := 9) (v := .ref qSI) (C := RX9) (T := TX9) (N := 24) hx hb hts hin9 hown hK hP 0 rfl rfl 9 (by decide) hfl32 (fun _ h9 => h9) rfl dX9_where_227 ?_
      refine lv_iload_n hx hb dX9_where_230 rfl (lv_at hl 1 rfl) ?_
      obtain ⟨hi_17, hF⟩ := gd_in_s hF
      refine va_iald hx hb hK hP 8 0 rfl rfl hi_17 dX9_where_231 ?_
      refine lv_icmp_ge (tgt := 331) hx hb dX9_where_232 (by decide) (fun c_18 => ?_) (fun c_18 => ?_)
      · replace hF := it_p c_18 hF
        refine lv_iload hx hb dX9_where_331 (lv_at hl 6 rfl) ?_
        exact W.iret (v := a23) hx hb hr  (fun t ht hW => ⟨a23, rfl, (so_e hF), ht⟩) (fun q h => absurd h List.not_mem_nil) dX9_where_333
      · replace hF := it_n c_18 hF
        refine lv_sipush (v := 360) hx hb dX9_where_235 (by decide) ?_
        refine lv_iload_n hx hb dX9_where_238 rfl (lv_at hl 1 rfl) ?_
        refine lv_imul hx hb dX9_where_239 ?_
        refine lv_iconst (v := 4) hx hb dX9_where_240 (by decide) ?_
        refine lv_iload hx hb dX9_where_241 (lv_at hl 7 rfl) ?_
        refine lv_imul hx hb dX9_where_243 ?_
        refine lv_iadd hx hb dX9_where_244 ?_
        refine lv_istore (lv' := [(25, .int ((360 * a1) + (4 * a24))), (0, .ref h0), (1, .int a1), (2, .long a2), (4, .long a4), (6, .long a6), (8, .long a8), (23, .int a23), (24, .int a24)]) hx hb dX9_where_245 hl (by decide) rfl (fun ls hl => ?_)
        refine lv_aload_n hx hb dX9_where_247 rfl (lv_at hl 1 rfl) ?_
        refine va_get (ci := 9) (v := .ref qSR) (C := RX9) (T := TX9) (N := 24) hx hb hts hin9 hown hK hP 0 rfl rfl 10 (by decide) hfl35 (fun _ h9 => h9) rfl dX9_where_248 ?_
        refine lv_iload hx hb dX9_where_251 (lv_at hl 0 rfl) ?_
        obtain ⟨hi_19, hF⟩ := gd_in_s hF
        refine va_iald hx hb hK hP 9 0 rfl rfl hi_19 dX9_where_253 ?_
        refine lv_i2l hx hb dX9_where_254 rfl ?_
        refine lv_lload_n hx hb dX9_where_255 rfl (lv_at hl 3 rfl) ?_
        refine lv_lmul hx hb dX9_where_256 ?_
        refine lv_aload_n hx hb dX9_where_257 rfl (lv_at hl 1 rfl) ?_
        refine va_get (ci := 9) (v := .ref qSR) (C := RX9) (T := TX9) (N := 24) hx hb hts hin9 hown hK hP 0 rfl rfl 10 (by decide) hfl35 (fun _ h9 => h9) rfl dX9_where_258 ?_
        refine lv_iload hx hb dX9_where_261 (lv_at hl 0 rfl) ?_
        refine lv_iconst (v := 1) hx hb dX9_where_263 (by decide) ?_
        refine lv_iadd hx hb dX9_where_264 ?_
        obtain ⟨hi_20, hF⟩ := gd_in_s hF
        refine va_iald hx hb hK hP 9 0 rfl rfl hi_20 dX9_where_265 ?_
        refine lv_i2l hx hb dX9_where_266 rfl ?_
        refine lv_lload hx hb dX9_where_267 (lv_at hl 4 rfl) ?_
        refine lv_lmul hx hb dX9_where_269 ?_
        refine lv_ladd hx hb dX9_where_270 ?_
        refine lv_aload_n hx hb dX9_where_271 rfl (lv_at hl 1 rfl) ?_
        refine va_get (ci := 9) (v := .ref qSR) (C := RX9) (T := TX9) (N := 24) hx hb hts hin9 hown hK hP 0 rfl rfl 10 (by decide) hfl35 (fun _ h9 => h9) rfl dX9_where_272 ?_
        refine lv_iload hx hb dX9_where_275 (lv_at hl 0 rfl) ?_
        refine lv_iconst (v := 2) hx hb dX9_where_277 (by decide) ?_
        refine lv_iadd hx hb dX9_where_278 ?_
        obtain ⟨hi_21, hF⟩ := gd_in_s hF
        refine va_iald hx hb hK hP 9 0 rfl rfl hi_21 dX9_where_279 ?_
        refine lv_i2l hx hb dX9_where_280 rfl ?_
        refine lv_lload hx hb dX9_where_281 (lv_at hl 5 rfl) ?_
        refine lv_lmul hx hb dX9_where_283 ?_
        refine lv_ladd hx hb dX9_where_284 ?_
        refine lv_lload hx hb dX9_where_285 (lv_at hl 6 rfl) ?_
        refine lv_aload_n hx hb dX9_where_287 rfl (lv_at hl 1 rfl) ?_
        refine va_get (ci := 9) (v := .ref qSR) (C := RX9) (T := TX9) (N := 24) hx hb hts hin9 hown hK hP 0 rfl rfl 10 (by decide) hfl35 (fun _ h9 => h9) rfl dX9_where_288 ?_
        refine lv_iload hx hb dX9_where_291 (lv_at hl 0 rfl) ?_
        refine lv_iconst (v := 3) hx hb dX9_where_293 (by decide) ?_
        refine lv_iadd hx hb dX9_where_294 ?_
        obtain ⟨hi_22, hF⟩ := gd_in_s hF
        refine va_iald hx hb hK hP 9 0 rfl rfl hi_22 dX9_where_295 ?_
        refine lv_i2l hx hb dX9_where_296 rfl ?_
        refine lv_lmul hx hb dX9_where_297 ?_
        refine lv_lsub hx hb dX9_where_298 ?_
        refine lv_topl (fun c_23 ec_23 => ?_)
        replace hF := cut_at ec_23 hF
        refine lv_lstore (lv' := [(26, .long c_23), (25, .int ((360 * a1) + (4 * a24))), (0, .ref h0), (1, .int a1), (2, .long a2), (4, .long a4), (6, .long a6), (8, .long a8), (23, .int a23), (24, .int a24)]) hx hb dX9_where_299 hl (by decide) rfl (fun ls hl => ?_)
        refine lv_lload hx hb dX9_where_301 (lv_at hl 0 rfl) ?_
        refine lv_lconst (v := 0) hx hb dX9_where_303 (by decide) ?_
        refine W.lcmp hx hb dX9_where_304 ?_
        refine lv_if_le (tgt := 310) hx hb dX9_where_305 (by decide) (fun c_24 => ?_) (fun c_24 => ?_)
        · replace hF := it_p c_24 hF
          refine lv_lload hx hb dX9_where_310 (lv_at hl 0 rfl) ?_
          refine lv_lconst (v := 0) hx hb dX9_where_312 (by decide) ?_
          refine W.lcmp hx hb dX9_where_313 ?_
          refine lv_if_ne (tgt := 321) hx hb dX9_where_314 (by decide) (fun c_25 => ?_) (fun c_25 => ?_)
          · replace hF := it_n c_25 hF
            refine lv_iload hx hb dX9_where_321 (lv_at hl 8 rfl) ?_
            exact hJ323 _ ih a1 a2 a4 a6 a8 a24 a23 _ hF (lv_sub hl [2, 3, 4, 5, 6, 7, 9] rfl)
          · replace hF := it_p c_25 hF
            refine lv_iconst (v := 1) hx hb dX9_where_317 (by decide) ?_
            refine lv_goto (tgt := 323) hx hb dX9_where_318 (by decide) ?_
            exact hJ323 _ ih a1 a2 a4 a6 a8 a24 1 _ hF (lv_sub hl [2, 3, 4, 5, 6, 7, 9] rfl)
        · replace hF := it_n c_24 hF
          refine lv_iconst (v := 0) hx hb dX9_where_308 (by decide) ?_
          exact W.iret (v := 0) hx hb hr  (fun t ht hW => ⟨0, rfl, (so_e hF), ht⟩) (fun q h => absurd h List.not_mem_nil) dX9_where_309
  have hJ218 : ∀ (a1 : Int32) (a2 : Int64) (a4 : Int64) (a6 : Int64) (a8 : Int64) (ls : Array Slot), JX9_where_218 FI CR SI SR BO a1 a2 a4 a6 a8 = some res → lv_has ls 28 [(0, .ref h0), (1, .int a1), (2, .long a2), (4, .long a4), (6, .long a6), (8, .long a8)] → W p l e (headSpec wsX9_where rX9_where).room s m ([.ref h0, .int p1, .long p2, .long p3, .long p4, .long p5] : List Value).toArray below meth c s.heap [] 0 0 (MQ below (vp_Si (fun r => r = res)) ([.ref h0, .int p1, .long p2, .long p3, .long p4, .long p5] : List Value).toArray s 0 0 (fun _ => False)) (F0 m 218 ls []) := by
    intro a1 a2 a4 a6 a8 ls hF hl
    unfold JX9_where_218 at hF
    refine lv_iconst (v := 2) hx hb dX9_where_218 (by decide) ?_
    refine lv_istore (lv' := [(23, .int 2), (0, .ref h0), (1, .int a1), (2, .long a2), (4, .long a4), (6, .long a6), (8, .long a8)]) hx hb dX9_where_219 hl (by decide) rfl (fun ls hl => ?_)
    refine lv_iconst (v := 0) hx hb dX9_where_221 (by decide) ?_
    refine lv_istore (lv' := [(24, .int 0), (23, .int 2), (0, .ref h0), (1, .int a1), (2, .long a2), (4, .long a4), (6, .long a6), (8, .long a8)]) hx hb dX9_where_222 hl (by decide) rfl (fun ls hl => ?_)
    exact hL224 FU a1 a2 a4 a6 a8 2 0 _ hF (lv_sub hl [2, 3, 4, 5, 6, 7, 1, 0] rfl)
  have hJ184 : ∀ (a1 : Int32) (a2 : Int64) (a4 : Int64) (a6 : Int64) (a8 : Int64) (a11 : Int64) (a13 : Int64) (a15 : Int64) (a17 : Int64) (a19 : Int64) (a21 : Int64) (ls : Array Slot), JX9_where_184 FI CR SI SR BO a1 a2 a4 a6 a8 a11 a13 a15 a17 a19 a21 = some res → lv_has ls 28 [(0, .ref h0), (1, .int a1), (2, .long a2), (4, .long a4), (6, .long a6), (8, .long a8), (11, .long a11), (13, .long a13), (15, .long a15), (17, .long a17), (19, .long a19), (21, .long a21)] → W p l e (headSpec wsX9_where rX9_where).room s m ([.ref h0, .int p1, .long p2, .long p3, .long p4, .long p5] : List Value).toArray below meth c s.heap [] 0 0 (MQ below (vp_Si (fun r => r = res)) ([.ref h0, .int p1, .long p2, .long p3, .long p4, .long p5] : List Value).toArray s 0 0 (fun _ => False)) (F0 m 184 ls []) := by
    intro a1 a2 a4 a6 a8 a11 a13 a15 a17 a19 a21 ls hF hl
    unfold JX9_where_184 at hF
    refine lv_aload_n hx hb dX9_where_184 rfl (lv_at hl 0 rfl) ?_
    refine va_get (ci := 9) (v := .ref qFI) (C := RX9) (T := TX9) (N := 24) hx hb hts hin9 hown hK hP 0 rfl rfl 6 (by decide) hfl23 (fun _ h9 => h9) rfl dX9_where_185 ?_
    refine lv_iload_n hx hb dX9_where_188 rfl (lv_at hl 1 rfl) ?_
    obtain ⟨hi_15, hF⟩ := gd_in_s hF
    refine va_iald hx hb hK hP 5 0 rfl rfl hi_15 dX9_where_189 ?_
    refine lv_iconst (v := 2) hx hb dX9_where_190 (by decide) ?_
    refine lv_icmp_ne (tgt := 218) hx hb dX9_where_191 (by decide) (fun c_16 => ?_) (fun c_16 => ?_)
    · replace hF := it_n c_16 hF
      exact hJ218 a1 a2 a4 a6 a8 _ hF (lv_sub hl [0, 1, 2, 3, 4, 5] rfl)
    · replace hF := it_p c_16 hF
      refine lv_lload hx hb dX9_where_194 (lv_at hl 9 rfl) ?_
      refine lv_lload hx hb dX9_where_196 (lv_at hl 6 rfl) ?_
      refine lv_lmul hx hb dX9_where_198 ?_
      refine lv_lload hx hb dX9_where_199 (lv_at hl 10 rfl) ?_
      refine lv_lload hx hb dX9_where_201 (lv_at hl 7 rfl) ?_
      refine lv_lmul hx hb dX9_where_203 ?_
      refine lv_ladd hx hb dX9_where_204 ?_
      refine lv_lload hx hb dX9_where_205 (lv_at hl 11 rfl) ?_
      refine lv_lload hx hb dX9_where_207 (lv_at hl 8 rfl) ?_
      refine lv_lmul hx hb dX9_where_209 ?_
      refine lv_ladd hx hb dX9_where_210 ?_
      refine lv_lconst (v := 0) hx hb dX9_where_211 (by decide) ?_
      refine W.lcmp hx hb dX9_where_212 ?_
      refine lv_if_eq (tgt := 218) hx hb dX9_where_213 (by decide) (fun c_26 => ?_) (fun c_26 => ?_)
      · replace hF := it_p c_26 hF
        exact hJ218 a1 a2 a4 a6 a8 _ hF (lv_sub hl [0, 1, 2, 3, 4, 5] rfl)
      · replace hF := it_n c_26 hF
        refine lv_iconst (v := 0) hx hb dX9_where_216 (by decide) ?_
        exact W.iret (v := 0) hx hb hr  (fun t ht hW => ⟨0, rfl, (so_e hF), ht⟩) (fun q h => absurd h List.not_mem_nil) dX9_where_217
  unfold fX9_where at hF
  refine lv_bipush (v := 120) hx hb dX9_where_0 (by decide) ?_
  refine lv_iload_n hx hb dX9_where_2 rfl (lv_at hl 1 rfl) ?_
  refine lv_imul hx hb dX9_where_3 ?_
  refine lv_istore (lv' := [(10, .int (120 * p1)), (0, .ref h0), (1, .int p1), (2, .long p2), (4, .long p3), (6, .long p4), (8, .long p5)]) hx hb dX9_where_4 hl (by decide) rfl (fun ls hl => ?_)
  refine lv_lload_n hx hb dX9_where_6 rfl (lv_at hl 3 rfl) ?_
  refine lv_lload hx hb dX9_where_7 (lv_at hl 6 rfl) ?_
  refine lv_aload_n hx hb dX9_where_9 rfl (lv_at hl 1 rfl) ?_
  refine va_get (ci := 9) (v := .ref qCR) (C := RX9) (T := TX9) (N := 24) hx hb hts hin9 hown hK hP 0 rfl rfl 8 (by decide) hfl29 (fun _ h9 => h9) rfl dX9_where_10 ?_
  refine lv_iload hx hb dX9_where_13 (lv_at hl 0 rfl) ?_
  obtain ⟨hi_1, hF⟩ := gd_in_s hF
  refine va_iald hx hb hK hP 7 0 rfl rfl hi_1 dX9_where_15 ?_
  refine lv_i2l hx hb dX9_where_16 rfl ?_
  refine lv_lmul hx hb dX9_where_17 ?_
  refine lv_lsub hx hb dX9_where_18 ?_
  refine lv_topl (fun c_2 ec_2 => ?_)
  replace hF := cut_at ec_2 hF
  refine lv_lstore (lv' := [(11, .long c_2), (10, .int (120 * p1)), (0, .ref h0), (1, .int p1), (2, .long p2), (4, .long p3), (6, .long p4), (8, .long p5)]) hx hb dX9_where_19 hl (by decide) rfl (fun ls hl => ?_)
  refine lv_lload hx hb dX9_where_21 (lv_at hl 5 rfl) ?_
  refine lv_lload hx hb dX9_where_23 (lv_at hl 7 rfl) ?_
  refine lv_aload_n hx hb dX9_where_25 rfl (lv_at hl 2 rfl) ?_
  refine va_get (ci := 9) (v := .ref qCR) (C := RX9) (T := TX9) (N := 24) hx hb hts hin9 hown hK hP 0 rfl rfl 8 (by decide) hfl29 (fun _ h9 => h9) rfl dX9_where_26 ?_
  refine lv_iload hx hb dX9_where_29 (lv_at hl 1 rfl) ?_
  refine lv_iconst (v := 1) hx hb dX9_where_31 (by decide) ?_
  refine lv_iadd hx hb dX9_where_32 ?_
  obtain ⟨hi_3, hF⟩ := gd_in_s hF
  refine va_iald hx hb hK hP 7 0 rfl rfl hi_3 dX9_where_33 ?_
  refine lv_i2l hx hb dX9_where_34 rfl ?_
  refine lv_lmul hx hb dX9_where_35 ?_
  refine lv_lsub hx hb dX9_where_36 ?_
  refine lv_topl (fun c_4 ec_4 => ?_)
  replace hF := cut_at ec_4 hF
  refine lv_lstore (lv' := [(13, .long c_4), (11, .long c_2), (10, .int (120 * p1)), (0, .ref h0), (1, .int p1), (2, .long p2), (4, .long p3), (6, .long p4), (8, .long p5)]) hx hb dX9_where_37 hl (by decide) rfl (fun ls hl => ?_)
  refine lv_lload hx hb dX9_where_39 (lv_at hl 7 rfl) ?_
  refine lv_lload hx hb dX9_where_41 (lv_at hl 8 rfl) ?_
  refine lv_aload_n hx hb dX9_where_43 rfl (lv_at hl 3 rfl) ?_
  refine va_get (ci := 9) (v := .ref qCR) (C := RX9) (T := TX9) (N := 24) hx hb hts hin9 hown hK hP 0 rfl rfl 8 (by decide) hfl29 (fun _ h9 => h9) rfl dX9_where_44 ?_
  refine lv_iload hx hb dX9_where_47 (lv_at hl 2 rfl) ?_
  refine lv_iconst (v := 2) hx hb dX9_where_49 (by decide) ?_
  refine lv_iadd hx hb dX9_where_50 ?_
  obtain ⟨hi_5, hF⟩ := gd_in_s hF
  refine va_iald hx hb hK hP 7 0 rfl rfl hi_5 dX9_where_51 ?_
  refine lv_i2l hx hb dX9_where_52 rfl ?_
  refine lv_lmul hx hb dX9_where_53 ?_
  refine lv_lsub hx hb dX9_where_54 ?_
  refine lv_topl (fun c_6 ec_6 => ?_)
  replace hF := cut_at ec_6 hF
  refine lv_lstore (lv' := [(15, .long c_6), (13, .long c_4), (11, .long c_2), (10, .int (120 * p1)), (0, .ref h0), (1, .int p1), (2, .long p2), (4, .long p3), (6, .long p4), (8, .long p5)]) hx hb dX9_where_55 hl (by decide) rfl (fun ls hl => ?_)
  refine lv_aload_n hx hb dX9_where_57 rfl (lv_at hl 4 rfl) ?_
  refine va_get (ci := 9) (v := .ref qBO) (C := RX9) (T := TX9) (N := 24) hx hb hts hin9 hown hK hP 0 rfl rfl 12 (by decide) hfl41 (fun _ h9 => h9) rfl dX9_where_58 ?_
  refine lv_iconst (v := 4) hx hb dX9_where_61 (by decide) ?_
  refine lv_iload_n hx hb dX9_where_62 rfl (lv_at hl 5 rfl) ?_
  refine lv_imul hx hb dX9_where_63 ?_
  obtain ⟨hi_7, hF⟩ := gd_in_s hF
  refine va_iald hx hb hK hP 11 0 rfl rfl hi_7 dX9_where_64 ?_
  refine lv_i2l hx hb dX9_where_65 rfl ?_
  refine lv_lstore (lv' := [(17, .long ((BO (4 * p1).toNatClampNeg).toInt64)), (15, .long c_6), (13, .long c_4), (11, .long c_2), (10, .int (120 * p1)), (0, .ref h0), (1, .int p1), (2, .long p2), (4, .long p3), (6, .long p4), (8, .long p5)]) hx hb dX9_where_66 hl (by decide) rfl (fun ls hl => ?_)
  refine lv_aload_n hx hb dX9_where_68 rfl (lv_at hl 5 rfl) ?_
  refine va_get (ci := 9) (v := .ref qBO) (C := RX9) (T := TX9) (N := 24) hx hb hts hin9 hown hK hP 0 rfl rfl 12 (by decide) hfl41 (fun _ h9 => h9) rfl dX9_where_69 ?_
  refine lv_iconst (v := 4) hx hb dX9_where_72 (by decide) ?_
  refine lv_iload_n hx hb dX9_where_73 rfl (lv_at hl 6 rfl) ?_
  refine lv_imul hx hb dX9_where_74 ?_
  refine lv_iconst (v := 1) hx hb dX9_where_75 (by decide) ?_
  refine lv_iadd hx hb dX9_where_76 ?_
  obtain ⟨hi_8, hF⟩ := gd_in_s hF
  refine va_iald hx hb hK hP 11 0 rfl rfl hi_8 dX9_where_77 ?_
  refine lv_i2l hx hb dX9_where_78 rfl ?_
  refine lv_topl (fun c_9 ec_9 => ?_)
  replace hF := cut_at ec_9 hF
  refine lv_lstore (lv' := [(19, .long c_9), (17, .long ((BO (4 * p1).toNatClampNeg).toInt64)), (15, .long c_6), (13, .long c_4), (11, .long c_2), (10, .int (120 * p1)), (0, .ref h0), (1, .int p1), (2, .long p2), (4, .long p3), (6, .long p4), (8, .long p5)]) hx hb dX9_where_79 hl (by decide) rfl (fun ls hl => ?_)
  refine lv_aload_n hx hb dX9_where_81 rfl (lv_at hl 6 rfl) ?_
  refine va_get (ci := 9) (v := .ref qBO) (C := RX9) (T := TX9) (N := 24) hx hb hts hin9 hown hK hP 0 rfl rfl 12 (by decide) hfl41 (fun _ h9 => h9) rfl dX9_where_82 ?_
  refine lv_iconst (v := 4) hx hb dX9_where_85 (by decide) ?_
  refine lv_iload_n hx hb dX9_where_86 rfl (lv_at hl 7 rfl) ?_
  refine lv_imul hx hb dX9_where_87 ?_
  refine lv_iconst (v := 2) hx hb dX9_where_88 (by decide) ?_
  refine lv_iadd hx hb dX9_where_89 ?_
  obtain ⟨hi_10, hF⟩ := gd_in_s hF
  refine va_iald hx hb hK hP 11 0 rfl rfl hi_10 dX9_where_90 ?_
  refine lv_i2l hx hb dX9_where_91 rfl ?_
  refine lv_topl (fun c_11 ec_11 => ?_)
  replace hF := cut_at ec_11 hF
  refine lv_lstore (lv' := [(21, .long c_11), (19, .long c_9), (17, .long ((BO (4 * p1).toNatClampNeg).toInt64)), (15, .long c_6), (13, .long c_4), (11, .long c_2), (10, .int (120 * p1)), (0, .ref h0), (1, .int p1), (2, .long p2), (4, .long p3), (6, .long p4), (8, .long p5)]) hx hb dX9_where_92 hl (by decide) rfl (fun ls hl => ?_)
  refine lv_aload_n hx hb dX9_where_94 rfl (lv_at hl 7 rfl) ?_
  refine va_get (ci := 9) (v := .ref qFI) (C := RX9) (T := TX9) (N := 24) hx hb hts hin9 hown hK hP 0 rfl rfl 6 (by decide) hfl23 (fun _ h9 => h9) rfl dX9_where_95 ?_
  refine lv_iload_n hx hb dX9_where_98 rfl (lv_at hl 8 rfl) ?_
  obtain ⟨hi_12, hF⟩ := gd_in_s hF
  refine va_iald hx hb hK hP 5 0 rfl rfl hi_12 dX9_where_99 ?_
  refine lv_if_ne (tgt := 130) hx hb dX9_where_100 (by decide) (fun c_13 => ?_) (fun c_13 => ?_)
  · replace hF := it_n c_13 hF
    refine lv_aload_n hx hb dX9_where_130 rfl (lv_at hl 7 rfl) ?_
    refine va_get (ci := 9) (v := .ref qFI) (C := RX9) (T := TX9) (N := 24) hx hb hts hin9 hown hK hP 0 rfl rfl 6 (by decide) hfl23 (fun _ h9 => h9) rfl dX9_where_131 ?_
    refine lv_iload_n hx hb dX9_where_134 rfl (lv_at hl 8 rfl) ?_
    refine va_iald hx hb hK hP 5 0 rfl rfl hi_12 dX9_where_135 ?_
    refine lv_iconst (v := 1) hx hb dX9_where_136 (by decide) ?_
    refine lv_icmp_ne (tgt := 184) hx hb dX9_where_137 (by decide) (fun c_14 => ?_) (fun c_14 => ?_)
    · replace hF := it_n c_14 hF
      exact hJ184 p1 p2 p3 p4 p5 c_2 c_4 c_6 ((BO (4 * p1).toNatClampNeg).toInt64) c_9 c_11 _ hF (lv_sub hl [7, 8, 9, 10, 11, 12, 5, 4, 3, 2, 1, 0] rfl)
    · replace hF := it_p c_14 hF
      refine lv_lload hx hb dX9_where_140 (lv_at hl 4 rfl) ?_
      refine lv_lload hx hb dX9_where_142 (lv_at hl 0 rfl) ?_
      refine lv_lmul hx hb dX9_where_144 ?_
      refine lv_lload hx hb dX9_where_145 (lv_at hl 3 rfl) ?_
      refine lv_lload hx hb dX9_where_147 (lv_at hl 1 rfl) ?_
      refine lv_lmul hx hb dX9_where_149 ?_
      refine W.lcmp hx hb dX9_where_150 ?_
      refine lv_if_ne (tgt := 182) hx hb dX9_where_151 (by decide) (fun c_27 => ?_) (fun c_27 => ?_)
      · replace hF := it_n c_27 hF
        refine lv_iconst (v := 0) hx hb dX9_where_182 (by decide) ?_
        exact W.iret (v := 0) hx hb hr  (fun t ht hW => ⟨0, rfl, (so_e hF), ht⟩) (fun q h => absurd h List.not_mem_nil) dX9_where_183
      · replace hF := it_p c_27 hF
        refine lv_lload hx hb dX9_where_154 (lv_at hl 3 rfl) ?_
        refine lv_lload hx hb dX9_where_156 (lv_at hl 2 rfl) ?_
        refine lv_lmul hx hb dX9_where_158 ?_
        refine lv_lload hx hb dX9_where_159 (lv_at hl 5 rfl) ?_
        refine lv_lload hx hb dX9_where_161 (lv_at hl 0 rfl) ?_
        refine lv_lmul hx hb dX9_where_163 ?_
        refine W.lcmp hx hb dX9_where_164 ?_
        refine lv_if_ne (tgt := 182) hx hb dX9_where_165 (by decide) (fun c_28 => ?_) (fun c_28 => ?_)
        · replace hF := it_n c_28 hF
          refine lv_iconst (v := 0) hx hb dX9_where_182 (by decide) ?_
          exact W.iret (v := 0) hx hb hr  (fun t ht hW => ⟨0, rfl, (so_e hF), ht⟩) (fun q h => absurd h List.not_mem_nil) dX9_where_183
        · replace hF := it_p c_28 hF
          refine lv_lload hx hb dX9_where_168 (lv_at hl 5 rfl) ?_
          refine lv_lload hx hb dX9_where_170 (lv_at hl 1 rfl) ?_
          refine lv_lmul hx hb dX9_where_172 ?_
          refine lv_lload hx hb dX9_where_173 (lv_at hl 4 rfl) ?_
          refine lv_lload hx hb dX9_where_175 (lv_at hl 2 rfl) ?_
          refine lv_lmul hx hb dX9_where_177 ?_
          refine W.lcmp hx hb dX9_where_178 ?_
          refine lv_if_eq (tgt := 184) hx hb dX9_where_179 (by decide) (fun c_29 => ?_) (fun c_29 => ?_)
          · replace hF := it_p c_29 hF
            exact hJ184 p1 p2 p3 p4 p5 c_2 c_4 c_6 ((BO (4 * p1).toNatClampNeg).toInt64) c_9 c_11 _ hF (lv_sub hl [7, 8, 9, 10, 11, 12, 5, 4, 3, 2, 1, 0] rfl)
          · replace hF := it_n c_29 hF
            refine lv_iconst (v := 0) hx hb dX9_where_182 (by decide) ?_
            exact W.iret (v := 0) hx hb hr  (fun t ht hW => ⟨0, rfl, (so_e hF), ht⟩) (fun q h => absurd h List.not_mem_nil) dX9_where_183
  · replace hF := it_p c_13 hF
    refine lv_lload hx hb dX9_where_103 (lv_at hl 5 rfl) ?_
    refine lv_lconst (v := 0) hx hb dX9_where_105 (by decide) ?_
    refine W.lcmp hx hb dX9_where_106 ?_
    refine lv_if_ne (tgt := 128) hx hb dX9_where_107 (by decide) (fun c_30 => ?_) (fun c_30 => ?_)
    · replace hF := it_n c_30 hF
      refine lv_iconst (v := 0) hx hb dX9_where_128 (by decide) ?_
      exact W.iret (v := 0) hx hb hr  (fun t ht hW => ⟨0, rfl, (so_e hF), ht⟩) (fun q h => absurd h List.not_mem_nil) dX9_where_129
    · replace hF := it_p c_30 hF
      refine lv_lload hx hb dX9_where_110 (lv_at hl 4 rfl) ?_
      refine lv_lconst (v := 0) hx hb dX9_where_112 (by decide) ?_
      refine W.lcmp hx hb dX9_where_113 ?_
      refine lv_if_ne (tgt := 128) hx hb dX9_where_114 (by decide) (fun c_31 => ?_) (fun c_31 => ?_)
      · replace hF := it_n c_31 hF
        refine lv_iconst (v := 0) hx hb dX9_where_128 (by decide) ?_
        exact W.iret (v := 0) hx hb hr  (fun t ht hW => ⟨0, rfl, (so_e hF), ht⟩) (fun q h => absurd h List.not_mem_nil) dX9_where_129
      · replace hF := it_p c_31 hF
        refine lv_lload hx hb dX9_where_117 (lv_at hl 3 rfl) ?_
        refine lv_lconst (v := 0) hx hb dX9_where_119 (by decide) ?_
        refine W.lcmp hx hb dX9_where_120 ?_
        refine lv_if_ne (tgt := 128) hx hb dX9_where_121 (by decide) (fun c_32 => ?_) (fun c_32 => ?_)
        · replace hF := it_n c_32 hF
          refine lv_iconst (v := 0) hx hb dX9_where_128 (by decide) ?_
          exact W.iret (v := 0) hx hb hr  (fun t ht hW => ⟨0, rfl, (so_e hF), ht⟩) (fun q h => absurd h List.not_mem_nil) dX9_where_129
        · replace hF := it_p c_32 hF
          refine lv_iconst (v := 2) hx hb dX9_where_124 (by decide) ?_
          refine lv_goto (tgt := 129) hx hb dX9_where_125 (by decide) ?_
          exact W.iret (v := 2) hx hb hr  (fun t ht hW => ⟨2, rfl, (so_e hF), ht⟩) (fun q h => absurd h List.not_mem_nil) dX9_where_129
def JX9_counted_119 (FI : Nat → Int32) (CO : Nat → Int32) (CR : Nat → Int32) (SI : Nat → Int32) (SR : Nat → Int32) (BO : Nat → Int32) (k85 : Int32 → Int32 → Int32 → Int32 → Int32 → Int32 → Int32 → Int32 → Int32 → Int32 → Int32 → Int32 → Option (Int32)) (k128 : Int32 → Int32 → Int32 → Int32 → Int32 → Int32 → Int32 → Int32 → Int32 → Int32 → Int32 → Option (Int32)) (a1 : Int32) (a2 : Int32) (a3 : Int32) (a5 : Int32) (a6 : Int32) (a7 : Int32) (a8 : Int32) (a9 : Int32) (a10 : Int32) (a11 : Int32) (a12 : Int32) (t0 : Int32) (t1 : Int32) : Option (Int32) :=
  (k85 a1 a2 a3 (t1 + t0) a5 a6 a7 a8 a9 a10 a11 (a12 + 1))
def LX9_counted_85 (FI : Nat → Int32) (CO : Nat → Int32) (CR : Nat → Int32) (SI : Nat → Int32) (SR : Nat → Int32) (BO : Nat → Int32) (k128 : Int32 → Int32 → Int32 → Int32 → Int32 → Int32 → Int32 → Int32 → Int32 → Int32 → Int32 → Option (Int32)) : Nat → Int32 → Int32 → Int32 → Int32 → Int32 → Int32 → Int32 → Int32 → Int32 → Int32 → Int32 → Int32 → Option (Int32)
  | 0, _, _, _, _, _, _, _, _, _, _, _, _ => none
  | k + 1, a1, a2, a3, a4, a5, a6, a7, a8, a9, a10, a11, a12 =>
  (if a9 < a12 then (k128 a1 a2 a3 a4 a5 a6 a7 a8 a9 a10 a11) else (bd (fX9_where FI CR SI SR BO a1 a10.toInt64 a11.toInt64 a12.toInt64 a2.toInt64) (fun v_10 => (if v_10 < a3 then (JX9_counted_119 FI CO CR SI SR BO (LX9_counted_85 FI CO CR SI SR BO k128 k) k128 a1 a2 a3 a5 a6 a7 a8 a9 a10 a11 a12 0 a4) else (JX9_counted_119 FI CO CR SI SR BO (LX9_counted_85 FI CO CR SI SR BO k128 k) k128 a1 a2 a3 a5 a6 a7 a8 a9 a10 a11 a12 1 a4)))))
def LX9_counted_74 (FI : Nat → Int32) (CO : Nat → Int32) (CR : Nat → Int32) (SI : Nat → Int32) (SR : Nat → Int32) (BO : Nat → Int32) (k134 : Int32 → Int32 → Int32 → Int32 → Int32 → Int32 → Int32 → Int32 → Int32 → Int32 → Option (Int32)) : Nat → Int32 → Int32 → Int32 → Int32 → Int32 → Int32 → Int32 → Int32 → Int32 → Int32 → Int32 → Option (Int32)
  | 0, _, _, _, _, _, _, _, _, _, _, _ => none
  | k + 1, a1, a2, a3, a4, a5, a6, a7, a8, a9, a10, a11 =>
  (if a8 < a11 then (k134 a1 a2 a3 a4 a5 a6 a7 a8 a9 a10) else (LX9_counted_85 FI CO CR SI SR BO (fun a1 a2 a3 a4 a5 a6 a7 a8 a9 a10 a11 => (LX9_counted_74 FI CO CR SI SR BO k134 k a1 a2 a3 a4 a5 a6 a7 a8 a9 a10 (a11 + 1))) FU a1 a2 a3 a4 a5 a6 a7 a8 a9 a10 a11 a6))
def LX9_counted_63 (FI : Nat → Int32) (CO : Nat → Int32) (CR : Nat → Int32) (SI : Nat → Int32) (SR : Nat → Int32) (BO : Nat → Int32)  : Nat → Int32 → Int32 → Int32 → Int32 → Int32 → Int32 → Int32 → Int32 → Int32 → Int32 → Option (Int32)
  | 0, _, _, _, _, _, _, _, _, _, _ => none
  | k + 1, a1, a2, a3, a4, a5, a6, a7, a8, a9, a10 =>
  (if a7 < a10 then (some a4) else (LX9_counted_74 FI CO CR SI SR BO (fun a1 a2 a3 a4 a5 a6 a7 a8 a9 a10 => (LX9_counted_63 FI CO CR SI SR BO k a1 a2 a3 a4 a5 a6 a7 a8 a9 (a10 + 1))) FU a1 a2 a3 a4 a5 a6 a7 a8 a9 a10 a5))
def fX9_counted (FI : Nat → Int32) (CO : Nat → Int32) (CR : Nat → Int32) (SI : Nat → Int32) (SR : Nat → Int32) (BO : Nat → Int32) (p1 : Int32) (p2 : Int32) (p3 : Int32) : Option (Int32) :=
  (bd (fX9_least CO CR p1 1) (fun v_1 => (bd (fX9_least CO CR p1 2) (fun v_2 => (bd (fX9_greatest CO CR p1 0) (fun v_3 => (bd (fX9_greatest CO CR p1 1) (fun v_4 => (bd (fX9_greatest CO CR p1 2) (fun v_5 => (bd (fX9_least CO CR p1 0) (fun v_6 => (LX9_counted_63 FI CO CR SI SR BO FU p1 p2 p3 0 (p2 * v_1) (p2 * v_2) (p2 * v_3) (p2 * v_4) (p2 * v_5) (p2 * v_6))))))))))))))
abbrev rX9_counted : Room := { frames := 1, cells := 0, slots := 0, locals := 47 }
set_option maxHeartbeats 40000000 in
set_option maxRecDepth 100000 in
theorem kX9_counted (l : Launch) (G : GT) (h0 qDR qLA qLE qCE qFI qCO qCR qSI qSR qMO qBO qPX qPY qPZ qSX : Nat) (dr : Int32) (bo : Int32) (po : Int32) (sx : Int32) (sy : Int32) (sw : Int32) (tx : Int32) (ty : Int32) (tz : Int32) (DR : Nat → Int32) (LA : Nat → Int32) (LE : Nat → Int32) (CE : Nat → Int64) (FI : Nat → Int32) (CO : Nat → Int32) (CR : Nat → Int32) (SI : Nat → Int32) (SR : Nat → Int32) (MO : Nat → Int32) (BO : Nat → Int32) (PX : Nat → Int32) (PY : Nat → Int32) (PZ : Nat → Int32) (SX : Nat → Int32) (p1 : Int32) (p2 : Int32) (p3 : Int32) (res : Int32) (hF : fX9_counted FI CO CR SI SR BO p1 p2 p3 = some res) : Met l yX9_counted wsX9_counted rX9_counted (va_Pc [.ref h0, .int p1, .int p2, .int p3] (pR G (wMod G h0 qDR qLA qLE qCE qFI qCO qCR qSI qSR qMO qBO qPX qPY qPZ qSX dr bo po sx sy sw tx ty tz DR LA LE CE FI CO CR SI SR MO BO PX PY PZ SX))) (vp_Si (fun r => r = res)) 0 0 (fun _ => False) := by
  refine Met.ofW (cc := cX9_counted) (maxL := 13) (ret := (some .int)) (by decide) rfl ?_
  intro p e s m args below meth c s₁ B hml hv
  obtain ⟨rfl, hP, hK⟩ := hv
  have hx := B.exec
  have hb := B.bytes
  have hr := B.returns
  have hts := atoms_spec (ws := wsX9_counted) B.pre
  have hown : s.vm.findClass RX9 = some m.cls := findClass_of_methodNamed B.named
  have hlocks := B.notSynchronized
  have hl := lv_entry ([.ref h0, .int p1, .int p2, .int p3]) (n := 13) (Nat.le_of_ble_eq_true rfl)
  rw [lg_entry_eq]
  generalize (lg_sl ([.ref h0, .int p1, .int p2, .int p3]) ++ List.replicate (13 - (lg_sl ([.ref h0, .int p1, .int p2, .int p3])).length) Slot.unset).toArray = ls at hl ⊢
  have hl : lv_has ls 13 [(0, .ref h0), (1, .int p1), (2, .int p2), (3, .int p3)] := hl
  have hJ119 : ∀ (k85 : Int32 → Int32 → Int32 → Int32 → Int32 → Int32 → Int32 → Int32 → Int32 → Int32 → Int32 → Int32 → Option (Int32)), (∀ (a1 : Int32) (a2 : Int32) (a3 : Int32) (a4 : Int32) (a5 : Int32) (a6 : Int32) (a7 : Int32) (a8 : Int32) (a9 : Int32) (a10 : Int32) (a11 : Int32) (a12 : Int32) (ls : Array Slot), k85 a1 a2 a3 a4 a5 a6 a7 a8 a9 a10 a11 a12 = some res → lv_has ls 13 [(0, .ref h0), (1, .int a1), (2, .int a2), (3, .int a3), (4, .int a4), (5, .int a5), (6, .int a6), (7, .int a7), (8, .int a8), (9, .int a9), (10, .int a10), (11, .int a11), (12, .int a12)] → W p l e (headSpec wsX9_counted rX9_counted).room s m ([.ref h0, .int p1, .int p2, .int p3] : List Value).toArray below meth c s.heap [] 0 0 (MQ below (vp_Si (fun r => r = res)) ([.ref h0, .int p1, .int p2, .int p3] : List Value).toArray s 0 0 (fun _ => False)) (F0 m 85 ls [])) → ∀ (k128 : Int32 → Int32 → Int32 → Int32 → Int32 → Int32 → Int32 → Int32 → Int32 → Int32 → Int32 → Option (Int32)), (∀ (a1 : Int32) (a2 : Int32) (a3 : Int32) (a4 : Int32) (a5 : Int32) (a6 : Int32) (a7 : Int32) (a8 : Int32) (a9 : Int32) (a10 : Int32) (a11 : Int32) (ls : Array Slot), k128 a1 a2 a3 a4 a5 a6 a7 a8 a9 a10 a11 = some res → lv_has ls 13 [(0, .ref h0), (1, .int a1), (2, .int a2), (3, .int a3), (4, .int a4), (5, .int a5), (6, .int a6), (7, .int a7), (8, .int a8), (9, .int a9), (10, .int a10), (11, .int a11)] → W p l e (headSpec wsX9_counted rX9_counted).room s m ([.ref h0, .int p1, .int p2, .int p3] : List Value).toArray below meth c s.heap [] 0 0 (MQ below (vp_Si (fun r => r = res)) ([.ref h0, .int p1, .int p2, .int p3] : List Value).toArray s 0 0 (fun _ => False)) (F0 m 128 ls [])) → ∀ (a1 : Int32) (a2 : Int32) (a3 : Int32) (a5 : Int32) (a6 : Int32) (a7 : Int32) (a8 : Int32) (a9 : Int32) (a10 : Int32) (a11 : Int32) (a12 : Int32) (t0 : Int32) (t1 : Int32) (ls : Array Slot), JX9_counted_119 FI CO CR SI SR BO k85 k128 a1 a2 a3 a5 a6 a7 a8 a9 a10 a11 a12 t0 t1 = some res → lv_has ls 13 [(0, .ref h0), (1, .int a1), (2, .int a2), (3, .int a3), (5, .int a5), (6, .int a6), (7, .int a7), (8, .int a8), (9, .int a9), (10, .int a10), (11, .int a11), (12, .int a12)] → W p l e (headSpec wsX9_counted rX9_counted).room s m ([.ref h0, .int p1, .int p2, .int p3] : List Value).toArray below meth c s.heap [] 0 0 (MQ below (vp_Si (fun r => r = res)) ([.ref h0, .int p1, .int p2, .int p3] : List Value).toArray s 0 0 (fun _ => False)) (F0 m 119 ls [.int t0, .int t1]) := by
    intro k85 hk85 k128 hk128
    intro a1 a2 a3 a5 a6 a7 a8 a9 a10 a11 a12 t0 t1 ls hF hl
    unfold JX9_counted_119 at hF
    refine lv_iadd hx hb dX9_counted_119 ?_
    refine lv_istore (lv' := [(4, .int (t1 + t0)), (0, .ref h0), (1, .int a1), (2, .int a2), (3, .int a3), (5, .int a5), (6, .int a6), (7, .int a7), (8, .int a8), (9, .int a9), (10, .int a10), (11, .int a11), (12, .int a12)]) hx hb dX9_counted_120 hl (by decide) rfl (fun ls hl => ?_)
    refine lv_iinc (v := a12 + 1) (lv' := [(12, .int (a12 + 1)), (4, .int (t1 + t0)), (0, .ref h0), (1, .int a1), (2, .int a2), (3, .int a3), (5, .int a5), (6, .int a6), (7, .int a7), (8, .int a8), (9, .int a9), (10, .int a10), (11, .int a11)]) hx hb dX9_counted_122 hl (k := 12) rfl rfl (by decide) rfl (fun ls hl => ?_)
    refine lv_goto (tgt := 85) hx hb dX9_counted_125 (by decide) ?_
    exact hk85 a1 a2 a3 (t1 + t0) a5 a6 a7 a8 a9 a10 a11 (a12 + 1) _ hF (lv_sub hl [2, 3, 4, 5, 1, 6, 7, 8, 9, 10, 11, 12, 0] rfl)
  have hL85 : ∀ (k128 : Int32 → Int32 → Int32 → Int32 → Int32 → Int32 → Int32 → Int32 → Int32 → Int32 → Int32 → Option (Int32)), (∀ (a1 : Int32) (a2 : Int32) (a3 : Int32) (a4 : Int32) (a5 : Int32) (a6 : Int32) (a7 : Int32) (a8 : Int32) (a9 : Int32) (a10 : Int32) (a11 : Int32) (ls : Array Slot), k128 a1 a2 a3 a4 a5 a6 a7 a8 a9 a10 a11 = some res → lv_has ls 13 [(0, .ref h0), (1, .int a1), (2, .int a2), (3, .int a3), (4, .int a4), (5, .int a5), (6, .int a6), (7, .int a7), (8, .int a8), (9, .int a9), (10, .int a10), (11, .int a11)] → W p l e (headSpec wsX9_counted rX9_counted).room s m ([.ref h0, .int p1, .int p2, .int p3] : List Value).toArray below meth c s.heap [] 0 0 (MQ below (vp_Si (fun r => r = res)) ([.ref h0, .int p1, .int p2, .int p3] : List Value).toArray s 0 0 (fun _ => False)) (F0 m 128 ls [])) → ∀ (k : Nat), ∀ (a1 : Int32) (a2 : Int32) (a3 : Int32) (a4 : Int32) (a5 : Int32) (a6 : Int32) (a7 : Int32) (a8 : Int32) (a9 : Int32) (a10 : Int32) (a11 : Int32) (a12 : Int32) (ls : Array Slot), LX9_counted_85 FI CO CR SI SR BO k128 k a1 a2 a3 a4 a5 a6 a7 a8 a9 a10 a11 a12 = some res → lv_has ls 13 [(0, .ref h0), (1, .int a1), (2, .int a2), (3, .int a3), (4, .int a4), (5, .int a5), (6, .int a6), (7, .int a7), (8, .int a8), (9, .int a9), (10, .int a10), (11, .int a11), (12, .int a12)] → W p l e (headSpec wsX9_counted rX9_counted).room s m ([.ref h0, .int p1, .int p2, .int p3] : List Value).toArray below meth c s.heap [] 0 0 (MQ below (vp_Si (fun r => r = res)) ([.ref h0, .int p1, .int p2, .int p3] : List Value).toArray s 0 0 (fun _ => False)) (F0 m 85 ls []) := by
    intro k128 hk128
    intro k
    induction k with
    | zero =>
      intro a1 a2 a3 a4 a5 a6 a7 a8 a9 a10 a11 a12 ls hF hl
      rw [LX9_counted_85] at hF
      cases hF
    | succ k ih =>
      intro a1 a2 a3 a4 a5 a6 a7 a8 a9 a10 a11 a12 ls hF hl
      rw [LX9_counted_85] at hF
      refine lv_iload hx hb dX9_counted_85 (lv_at hl 12 rfl) ?_
      refine lv_iload hx hb dX9_counted_87 (lv_at hl 9 rfl) ?_
      refine lv_icmp_gt (tgt := 128) hx hb dX9_counted_89 (by decide) (fun c_9 => ?_) (fun c_9 => ?_)
      · replace hF := it_p c_9 hF
        exact hk128 a1 a2 a3 a4 a5 a6 a7 a8 a9 a10 a11 _ hF (lv_sub hl [0, 1, 2, 3, 4, 5, 6, 7, 8, 9, 10, 11] rfl)
      · replace hF := it_n c_9 hF
        refine lv_iload hx hb dX9_counted_92 (lv_at hl 4 rfl) ?_
        refine lv_aload_n hx hb dX9_counted_94 rfl (lv_at hl 0 rfl) ?_
        refine lv_iload_n hx hb dX9_counted_95 rfl (lv_at hl 1 rfl) ?_
        refine lv_iload hx hb dX9_counted_96 (lv_at hl 10 rfl) ?_
        refine lv_i2l hx hb dX9_counted_98 rfl ?_
        refine lv_iload hx hb dX9_counted_99 (lv_at hl 11 rfl) ?_
        refine lv_i2l hx hb dX9_counted_101 rfl ?_
        refine lv_iload hx hb dX9_counted_102 (lv_at hl 12 rfl) ?_
        refine lv_i2l hx hb dX9_counted_104 rfl ?_
        refine lv_iload_n hx hb dX9_counted_105 rfl (lv_at hl 2 rfl) ?_
        refine lv_i2l hx hb dX9_counted_106 rfl ?_
        obtain ⟨v_10, hv_10, hF⟩ := bd_s hF
        refine ro_ie (va_runV (As := [.int a1, .long a10.toInt64, .long a11.toInt64, .long a12.toInt64, .long a2.toInt64]) (rest := [.int a4]) ⟨hx, hb, hml, hown, hts⟩ (kX9_where l G h0 qDR qLA qLE qCE qFI qCO qCR qSI qSR qMO qBO qPX qPY qPZ qSX dr bo po sx sy sw tx ty tz DR LA LE CE FI CO CR SI SR MO BO PX PY PZ SX a1 a10.toInt64 a11.toInt64 a12.toInt64 a2.toInt64 v_10 hv_10) (cwV 5 hts gX9_counted_X9_where rfl rfl rfl (by decide +kernel) ⟨Nat.le_of_ble_eq_true rfl, Nat.le_of_ble_eq_true rfl⟩) (pvR (q0 := 0) 9 hK (hP.sub (ws' := (wMod G h0 qDR qLA qLE qCE qFI qCO qCR qSI qSR qMO qBO qPX qPY qPZ qSX dr bo po sx sy sw tx ty tz DR LA LE CE FI CO CR SI SR MO BO PX PY PZ SX)) [0, 1, 2, 3, 4, 5, 6, 7, 8, 9, 10, 11, 12, 13, 14, 15] rfl) rfl rfl) rfl rfl hl.1 rfl (lv_room (Nat.le_of_ble_eq_true rfl)) dX9_counted_107 ⟨Nat.le_of_ble_eq_true rfl, Nat.le_of_ble_eq_true rfl⟩) ?_
        refine lv_iload_n hx hb dX9_counted_110 rfl (lv_at hl 3 rfl) ?_
        refine lv_icmp_lt (tgt := 118) hx hb dX9_counted_111 (by decide) (fun c_11 => ?_) (fun c_11 => ?_)
        · replace hF := it_p c_11 hF
          refine lv_iconst (v := 0) hx hb dX9_counted_118 (by decide) ?_
          exact hJ119 _ ih _ hk128 a1 a2 a3 a5 a6 a7 a8 a9 a10 a11 a12 0 a4 _ hF (lv_sub hl [0, 1, 2, 3, 5, 6, 7, 8, 9, 10, 11, 12] rfl)
        · replace hF := it_n c_11 hF
          refine lv_iconst (v := 1) hx hb dX9_counted_114 (by decide) ?_
          refine lv_goto (tgt := 119) hx hb dX9_counted_115 (by decide) ?_
          exact hJ119 _ ih _ hk128 a1 a2 a3 a5 a6 a7 a8 a9 a10 a11 a12 1 a4 _ hF (lv_sub hl [0, 1, 2, 3, 5, 6, 7, 8, 9, 10, 11, 12] rfl)
  have hL74 : ∀ (k134 : Int32 → Int32 → Int32 → Int32 → Int32 → Int32 → Int32 → Int32 → Int32 → Int32 → Option (Int32)), (∀ (a1 : Int32) (a2 : Int32) (a3 : Int32) (a4 : Int32) (a5 : Int32) (a6 : Int32) (a7 : Int32) (a8 : Int32) (a9 : Int32) (a10 : Int32) (ls : Array Slot), k134 a1 a2 a3 a4 a5 a6 a7 a8 a9 a10 = some res → lv_has ls 13 [(0, .ref h0), (1, .int a1), (2, .int a2), (3, .int a3), (4, .int a4), (5, .int a5), (6, .int a6), (7, .int a7), (8, .int a8), (9, .int a9), (10, .int a10)] → W p l e (headSpec wsX9_counted rX9_counted).room s m ([.ref h0, .int p1, .int p2, .int p3] : List Value).toArray below meth c s.heap [] 0 0 (MQ below (vp_Si (fun r => r = res)) ([.ref h0, .int p1, .int p2, .int p3] : List Value).toArray s 0 0 (fun _ => False)) (F0 m 134 ls [])) → ∀ (k : Nat), ∀ (a1 : Int32) (a2 : Int32) (a3 : Int32) (a4 : Int32) (a5 : Int32) (a6 : Int32) (a7 : Int32) (a8 : Int32) (a9 : Int32) (a10 : Int32) (a11 : Int32) (ls : Array Slot), LX9_counted_74 FI CO CR SI SR BO k134 k a1 a2 a3 a4 a5 a6 a7 a8 a9 a10 a11 = some res → lv_has ls 13 [(0, .ref h0), (1, .int a1), (2, .int a2), (3, .int a3), (4, .int a4), (5, .int a5), (6, .int a6), (7, .int a7), (8, .int a8), (9, .int a9), (10, .int a10), (11, .int a11)] → W p l e (headSpec wsX9_counted rX9_counted).room s m ([.ref h0, .int p1, .int p2, .int p3] : List Value).toArray below meth c s.heap [] 0 0 (MQ below (vp_Si (fun r => r = res)) ([.ref h0, .int p1, .int p2, .int p3] : List Value).toArray s 0 0 (fun _ => False)) (F0 m 74 ls []) := by
    intro k134 hk134
    intro k
    induction k with
    | zero =>
      intro a1 a2 a3 a4 a5 a6 a7 a8 a9 a10 a11 ls hF hl
      rw [LX9_counted_74] at hF
      cases hF
    | succ k ih =>
      intro a1 a2 a3 a4 a5 a6 a7 a8 a9 a10 a11 ls hF hl
      rw [LX9_counted_74] at hF
      refine lv_iload hx hb dX9_counted_74 (lv_at hl 11 rfl) ?_
      refine lv_iload hx hb dX9_counted_76 (lv_at hl 8 rfl) ?_
      refine lv_icmp_gt (tgt := 134) hx hb dX9_counted_78 (by decide) (fun c_8 => ?_) (fun c_8 => ?_)
      · replace hF := it_p c_8 hF
        exact hk134 a1 a2 a3 a4 a5 a6 a7 a8 a9 a10 _ hF (lv_sub hl [0, 1, 2, 3, 4, 5, 6, 7, 8, 9, 10] rfl)
      · replace hF := it_n c_8 hF
        refine lv_iload hx hb dX9_counted_81 (lv_at hl 6 rfl) ?_
        refine lv_istore (lv' := [(12, .int a6), (0, .ref h0), (1, .int a1), (2, .int a2), (3, .int a3), (4, .int a4), (5, .int a5), (6, .int a6), (7, .int a7), (8, .int a8), (9, .int a9), (10, .int a10), (11, .int a11)]) hx hb dX9_counted_83 hl (by decide) rfl (fun ls hl => ?_)
        refine hL85 _ ?_ FU a1 a2 a3 a4 a5 a6 a7 a8 a9 a10 a11 a6 _ hF (lv_sub hl [1, 2, 3, 4, 5, 6, 7, 8, 9, 10, 11, 12, 0] rfl)
        · intro a1 a2 a3 a4 a5 a6 a7 a8 a9 a10 a11 ls hF hl
          refine lv_iinc (v := a11 + 1) (lv' := [(11, .int (a11 + 1)), (0, .ref h0), (1, .int a1), (2, .int a2), (3, .int a3), (4, .int a4), (5, .int a5), (6, .int a6), (7, .int a7), (8, .int a8), (9, .int a9), (10, .int a10)]) hx hb dX9_counted_128 hl (k := 11) rfl rfl (by decide) rfl (fun ls hl => ?_)
          refine lv_goto (tgt := 74) hx hb dX9_counted_131 (by decide) ?_
          exact ih a1 a2 a3 a4 a5 a6 a7 a8 a9 a10 (a11 + 1) _ hF (lv_sub hl [1, 2, 3, 4, 5, 6, 7, 8, 9, 10, 11, 0] rfl)
  have hL63 : ∀ (k : Nat), ∀ (a1 : Int32) (a2 : Int32) (a3 : Int32) (a4 : Int32) (a5 : Int32) (a6 : Int32) (a7 : Int32) (a8 : Int32) (a9 : Int32) (a10 : Int32) (ls : Array Slot), LX9_counted_63 FI CO CR SI SR BO k a1 a2 a3 a4 a5 a6 a7 a8 a9 a10 = some res → lv_has ls 13 [(0, .ref h0), (1, .int a1), (2, .int a2), (3, .int a3), (4, .int a4), (5, .int a5), (6, .int a6), (7, .int a7), (8, .int a8), (9, .int a9), (10, .int a10)] → W p l e (headSpec wsX9_counted rX9_counted).room s m ([.ref h0, .int p1, .int p2, .int p3] : List Value).toArray below meth c s.heap [] 0 0 (MQ below (vp_Si (fun r => r = res)) ([.ref h0, .int p1, .int p2, .int p3] : List Value).toArray s 0 0 (fun _ => False)) (F0 m 63 ls []) := by
    intro k
    induction k with
    | zero =>
      intro a1 a2 a3 a4 a5 a6 a7 a8 a9 a10 ls hF hl
      rw [LX9_counted_63] at hF
      cases hF
    | succ k ih =>
      intro a1 a2 a3 a4 a5 a6 a7 a8 a9 a10 ls hF hl
      rw [LX9_counted_63] at hF
      refine lv_iload hx hb dX9_counted_63 (lv_at hl 10 rfl) ?_
      refine lv_iload hx hb dX9_counted_65 (lv_at hl 7 rfl) ?_
      refine lv_icmp_gt (tgt := 140) hx hb dX9_counted_67 (by decide) (fun c_7 => ?_) (fun c_7 => ?_)
      · replace hF := it_p c_7 hF
        refine lv_iload hx hb dX9_counted_140 (lv_at hl 4 rfl) ?_
        exact W.iret (v := a4) hx hb hr  (fun t ht hW => ⟨a4, rfl, (so_e hF), ht⟩) (fun q h => absurd h List.not_mem_nil) dX9_counted_142
      · replace hF := it_n c_7 hF
        refine lv_iload hx hb dX9_counted_70 (lv_at hl 5 rfl) ?_
        refine lv_istore (lv' := [(11, .int a5), (0, .ref h0), (1, .int a1), (2, .int a2), (3, .int a3), (4, .int a4), (5, .int a5), (6, .int a6), (7, .int a7), (8, .int a8), (9, .int a9), (10, .int a10)]) hx hb dX9_counted_72 hl (by decide) rfl (fun ls hl => ?_)
        refine hL74 _ ?_ FU a1 a2 a3 a4 a5 a6 a7 a8 a9 a10 a5 _ hF (lv_sub hl [1, 2, 3, 4, 5, 6, 7, 8, 9, 10, 11, 0] rfl)
        · intro a1 a2 a3 a4 a5 a6 a7 a8 a9 a10 ls hF hl
          refine lv_iinc (v := a10 + 1) (lv' := [(10, .int (a10 + 1)), (0, .ref h0), (1, .int a1), (2, .int a2), (3, .int a3), (4, .int a4), (5, .int a5), (6, .int a6), (7, .int a7), (8, .int a8), (9, .int a9)]) hx hb dX9_counted_134 hl (k := 10) rfl rfl (by decide) rfl (fun ls hl => ?_)
          refine lv_goto (tgt := 63) hx hb dX9_counted_137 (by decide) ?_
          exact ih a1 a2 a3 a4 a5 a6 a7 a8 a9 (a10 + 1) _ hF (lv_sub hl [1, 2, 3, 4, 5, 6, 7, 8, 9, 10, 0] rfl)
  unfold fX9_counted at hF
  refine lv_iconst (v := 0) hx hb dX9_counted_0 (by decide) ?_
  refine lv_istore (lv' := [(4, .int 0), (0, .ref h0), (1, .int p1), (2, .int p2), (3, .int p3)]) hx hb dX9_counted_1 hl (by decide) rfl (fun ls hl => ?_)
  refine lv_iload_n hx hb dX9_counted_3 rfl (lv_at hl 3 rfl) ?_
  refine lv_aload_n hx hb dX9_counted_4 rfl (lv_at hl 1 rfl) ?_
  refine lv_iload_n hx hb dX9_counted_5 rfl (lv_at hl 2 rfl) ?_
  refine lv_iconst (v := 1) hx hb dX9_counted_6 (by decide) ?_
  obtain ⟨v_1, hv_1, hF⟩ := bd_s hF
  refine ro_ie (va_runV (As := [.int p1, .int 1]) (rest := [.int p2]) ⟨hx, hb, hml, hown, hts⟩ (kX9_least l G h0 qDR qLA qLE qCE qFI qCO qCR qSI qSR qMO qBO qPX qPY qPZ qSX dr bo po sx sy sw tx ty tz DR LA LE CE FI CO CR SI SR MO BO PX PY PZ SX p1 1 v_1 hv_1) (cwV 2 hts gX9_counted_X9_least rfl rfl rfl (by decide +kernel) ⟨Nat.le_of_ble_eq_true rfl, Nat.le_of_ble_eq_true rfl⟩) (pvR (q0 := 0) 9 hK (hP.sub (ws' := (wMod G h0 qDR qLA qLE qCE qFI qCO qCR qSI qSR qMO qBO qPX qPY qPZ qSX dr bo po sx sy sw tx ty tz DR LA LE CE FI CO CR SI SR MO BO PX PY PZ SX)) [0, 1, 2, 3, 4, 5, 6, 7, 8, 9, 10, 11, 12, 13, 14, 15] rfl) rfl rfl) rfl rfl hl.1 rfl (lv_room (Nat.le_of_ble_eq_true rfl)) dX9_counted_7 ⟨Nat.le_of_ble_eq_true rfl, Nat.le_of_ble_eq_true rfl⟩) ?_
  refine lv_imul hx hb dX9_counted_10 ?_
  refine lv_istore (lv' := [(5, .int (p2 * v_1)), (4, .int 0), (0, .ref h0), (1, .int p1), (2, .int p2), (3, .int p3)]) hx hb dX9_counted_11 hl (by decide) rfl (fun ls hl => ?_)
  refine lv_iload_n hx hb dX9_counted_13 rfl (lv_at hl 4 rfl) ?_
  refine lv_aload_n hx hb dX9_counted_14 rfl (lv_at hl 2 rfl) ?_
  refine lv_iload_n hx hb dX9_counted_15 rfl (lv_at hl 3 rfl) ?_
  refine lv_iconst (v := 2) hx hb dX9_counted_16 (by decide) ?_
  obtain ⟨v_2, hv_2, hF⟩ := bd_s hF
  refine ro_ie (va_runV (As := [.int p1, .int 2]) (rest := [.int p2]) ⟨hx, hb, hml, hown, hts⟩ (kX9_least l G h0 qDR qLA qLE qCE qFI qCO qCR qSI qSR qMO qBO qPX qPY qPZ qSX dr bo po sx sy sw tx ty tz DR LA LE CE FI CO CR SI SR MO BO PX PY PZ SX p1 2 v_2 hv_2) (cwV 2 hts gX9_counted_X9_least rfl rfl rfl (by decide +kernel) ⟨Nat.le_of_ble_eq_true rfl, Nat.le_of_ble_eq_true rfl⟩) (pvR (q0 := 0) 9 hK (hP.sub (ws' := (wMod G h0 qDR qLA qLE qCE qFI qCO qCR qSI qSR qMO qBO qPX qPY qPZ qSX dr bo po sx sy sw tx ty tz DR LA LE CE FI CO CR SI SR MO BO PX PY PZ SX)) [0, 1, 2, 3, 4, 5, 6, 7, 8, 9, 10, 11, 12, 13, 14, 15] rfl) rfl rfl) rfl rfl hl.1 rfl (lv_room (Nat.le_of_ble_eq_true rfl)) dX9_counted_17 ⟨Nat.le_of_ble_eq_true rfl, Nat.le_of_ble_eq_true rfl⟩) ?_
  refine lv_imul hx hb dX9_counted_20 ?_
  refine lv_istore (lv' := [(6, .int (p2 * v_2)), (5, .int (p2 * v_1)), (4, .int 0), (0, .ref h0), (1, .int p1), (2, .int p2), (3, .int p3)]) hx hb dX9_counted_21 hl (by decide) rfl (fun ls hl => ?_)
  refine lv_iload_n hx hb dX9_counted_23 rfl (lv_at hl 5 rfl) ?_
  refine lv_aload_n hx hb dX9_counted_24 rfl (lv_at hl 3 rfl) ?_
  refine lv_iload_n hx hb dX9_counted_25 rfl (lv_at hl 4 rfl) ?_
  refine lv_iconst (v := 0) hx hb dX9_counted_26 (by decide) ?_
  obtain ⟨v_3, hv_3, hF⟩ := bd_s hF
  refine ro_ie (va_runV (As := [.int p1, .int 0]) (rest := [.int p2]) ⟨hx, hb, hml, hown, hts⟩ (kX9_greatest l G h0 qDR qLA qLE qCE qFI qCO qCR qSI qSR qMO qBO qPX qPY qPZ qSX dr bo po sx sy sw tx ty tz DR LA LE CE FI CO CR SI SR MO BO PX PY PZ SX p1 0 v_3 hv_3) (cwV 2 hts gX9_counted_X9_greatest rfl rfl rfl (by decide +kernel) ⟨Nat.le_of_ble_eq_true rfl, Nat.le_of_ble_eq_true rfl⟩) (pvR (q0 := 0) 9 hK (hP.sub (ws' := (wMod G h0 qDR qLA qLE qCE qFI qCO qCR qSI qSR qMO qBO qPX qPY qPZ qSX dr bo po sx sy sw tx ty tz DR LA LE CE FI CO CR SI SR MO BO PX PY PZ SX)) [0, 1, 2, 3, 4, 5, 6, 7, 8, 9, 10, 11, 12, 13, 14, 15] rfl) rfl rfl) rfl rfl hl.1 rfl (lv_room (Nat.le_of_ble_eq_true rfl)) dX9_counted_27 ⟨Nat.le_of_ble_eq_true rfl, Nat.le_of_ble_eq_true rfl⟩) ?_
  refine lv_imul hx hb dX9_counted_30 ?_
  refine lv_istore (lv' := [(7, .int (p2 * v_3)), (6, .int (p2 * v_2)), (5, .int (p2 * v_1)), (4, .int 0), (0, .ref h0), (1, .int p1), (2, .int p2), (3, .int p3)]) hx hb dX9_counted_31 hl (by decide) rfl (fun ls hl => ?_)
  refine lv_iload_n hx hb dX9_counted_33 rfl (lv_at hl 6 rfl) ?_
  refine lv_aload_n hx hb dX9_counted_34 rfl (lv_at hl 4 rfl) ?_
  refine lv_iload_n hx hb dX9_counted_35 rfl (lv_at hl 5 rfl) ?_
  refine lv_iconst (v := 1) hx hb dX9_counted_36 (by decide) ?_
  obtain ⟨v_4, hv_4, hF⟩ := bd_s hF
  refine ro_ie (va_runV (As := [.int p1, .int 1]) (rest := [.int p2]) ⟨hx, hb, hml, hown, hts⟩ (kX9_greatest l G h0 qDR qLA qLE qCE qFI qCO qCR qSI qSR qMO qBO qPX qPY qPZ qSX dr bo po sx sy sw tx ty tz DR LA LE CE FI CO CR SI SR MO BO PX PY PZ SX p1 1 v_4 hv_4) (cwV 2 hts gX9_counted_X9_greatest rfl rfl rfl (by decide +kernel) ⟨Nat.le_of_ble_eq_true rfl, Nat.le_of_ble_eq_true rfl⟩) (pvR (q0 := 0) 9 hK (hP.sub (ws' := (wMod G h0 qDR qLA qLE qCE qFI qCO qCR qSI qSR qMO qBO qPX qPY qPZ qSX dr bo po sx sy sw tx ty tz DR LA LE CE FI CO CR SI SR MO BO PX PY PZ SX)) [0, 1, 2, 3, 4, 5, 6, 7, 8, 9, 10, 11, 12, 13, 14, 15] rfl) rfl rfl) rfl rfl hl.1 rfl (lv_room (Nat.le_of_ble_eq_true rfl)) dX9_counted_37 ⟨Nat.le_of_ble_eq_true rfl, Nat.le_of_ble_eq_true rfl⟩) ?_
  refine lv_imul hx hb dX9_counted_40 ?_
  refine lv_istore (lv' := [(8, .int (p2 * v_4)), (7, .int (p2 * v_3)), (6, .int (p2 * v_2)), (5, .int (p2 * v_1)), (4, .int 0), (0, .ref h0), (1, .int p1), (2, .int p2), (3, .int p3)]) hx hb dX9_counted_41 hl (by decide) rfl (fun ls hl => ?_)
  refine lv_iload_n hx hb dX9_counted_43 rfl (lv_at hl 7 rfl) ?_
  refine lv_aload_n hx hb dX9_counted_44 rfl (lv_at hl 5 rfl) ?_
  refine lv_iload_n hx hb dX9_counted_45 rfl (lv_at hl 6 rfl) ?_
  refine lv_iconst (v := 2) hx hb dX9_counted_46 (by decide) ?_
  obtain ⟨v_5, hv_5, hF⟩ := bd_s hF
  refine ro_ie (va_runV (As := [.int p1, .int 2]) (rest := [.int p2]) ⟨hx, hb, hml, hown, hts⟩ (kX9_greatest l G h0 qDR qLA qLE qCE qFI qCO qCR qSI qSR qMO qBO qPX qPY qPZ qSX dr bo po sx sy sw tx ty tz DR LA LE CE FI CO CR SI SR MO BO PX PY PZ SX p1 2 v_5 hv_5) (cwV 2 hts gX9_counted_X9_greatest rfl rfl rfl (by decide +kernel) ⟨Nat.le_of_ble_eq_true rfl, Nat.le_of_ble_eq_true rfl⟩) (pvR (q0 := 0) 9 hK (hP.sub (ws' := (wMod G h0 qDR qLA qLE qCE qFI qCO qCR qSI qSR qMO qBO qPX qPY qPZ qSX dr bo po sx sy sw tx ty tz DR LA LE CE FI CO CR SI SR MO BO PX PY PZ SX)) [0, 1, 2, 3, 4, 5, 6, 7, 8, 9, 10, 11, 12, 13, 14, 15] rfl) rfl rfl) rfl rfl hl.1 rfl (lv_room (Nat.le_of_ble_eq_true rfl)) dX9_counted_47 ⟨Nat.le_of_ble_eq_true rfl, Nat.le_of_ble_eq_true rfl⟩) ?_
  refine lv_imul hx hb dX9_counted_50 ?_
  refine lv_istore (lv' := [(9, .int (p2 * v_5)), (8, .int (p2 * v_4)), (7, .int (p2 * v_3)), (6, .int (p2 * v_2)), (5, .int (p2 * v_1)), (4, .int 0), (0, .ref h0), (1, .int p1), (2, .int p2), (3, .int p3)]) hx hb dX9_counted_51 hl (by decide) rfl (fun ls hl => ?_)
  refine lv_iload_n hx hb dX9_counted_53 rfl (lv_at hl 8 rfl) ?_
  refine lv_aload_n hx hb dX9_counted_54 rfl (lv_at hl 6 rfl) ?_
  refine lv_iload_n hx hb dX9_counted_55 rfl (lv_at hl 7 rfl) ?_
  refine lv_iconst (v := 0) hx hb dX9_counted_56 (by decide) ?_
  obtain ⟨v_6, hv_6, hF⟩ := bd_s hF
  refine ro_ie (va_runV (As := [.int p1, .int 0]) (rest := [.int p2]) ⟨hx, hb, hml, hown, hts⟩ (kX9_least l G h0 qDR qLA qLE qCE qFI qCO qCR qSI qSR qMO qBO qPX qPY qPZ qSX dr bo po sx sy sw tx ty tz DR LA LE CE FI CO CR SI SR MO BO PX PY PZ SX p1 0 v_6 hv_6) (cwV 2 hts gX9_counted_X9_least rfl rfl rfl (by decide +kernel) ⟨Nat.le_of_ble_eq_true rfl, Nat.le_of_ble_eq_true rfl⟩) (pvR (q0 := 0) 9 hK (hP.sub (ws' := (wMod G h0 qDR qLA qLE qCE qFI qCO qCR qSI qSR qMO qBO qPX qPY qPZ qSX dr bo po sx sy sw tx ty tz DR LA LE CE FI CO CR SI SR MO BO PX PY PZ SX)) [0, 1, 2, 3, 4, 5, 6, 7, 8, 9, 10, 11, 12, 13, 14, 15] rfl) rfl rfl) rfl rfl hl.1 rfl (lv_room (Nat.le_of_ble_eq_true rfl)) dX9_counted_57 ⟨Nat.le_of_ble_eq_true rfl, Nat.le_of_ble_eq_true rfl⟩) ?_
  refine lv_imul hx hb dX9_counted_60 ?_
  refine lv_istore (lv' := [(10, .int (p2 * v_6)), (9, .int (p2 * v_5)), (8, .int (p2 * v_4)), (7, .int (p2 * v_3)), (6, .int (p2 * v_2)), (5, .int (p2 * v_1)), (4, .int 0), (0, .ref h0), (1, .int p1), (2, .int p2), (3, .int p3)]) hx hb dX9_counted_61 hl (by decide) rfl (fun ls hl => ?_)
  exact hL63 FU p1 p2 p3 0 (p2 * v_1) (p2 * v_2) (p2 * v_3) (p2 * v_4) (p2 * v_5) (p2 * v_6) _ hF (lv_sub hl [7, 8, 9, 10, 6, 5, 4, 3, 2, 1, 0] rfl)
def fX9_countOf (FI : Nat → Int32) (CO : Nat → Int32) (CR : Nat → Int32) (SI : Nat → Int32) (SR : Nat → Int32) (BO : Nat → Int32) (p1 : Int32) (p2 : Int32) : Option (Int32) :=
  (if p2 = 0 then (some 1) else (bd (fX9_counted FI CO CR SI SR BO p1 p2 1) (fun v_2 => (some v_2))))
abbrev rX9_countOf : Room := { frames := 2, cells := 0, slots := 0, locals := 79 }
set_option maxHeartbeats 40000000 in
set_option maxRecDepth 100000 in
theorem kX9_countOf (l : Launch) (G : GT) (h0 qDR qLA qLE qCE qFI qCO qCR qSI qSR qMO qBO qPX qPY qPZ qSX : Nat) (dr : Int32) (bo : Int32) (po : Int32) (sx : Int32) (sy : Int32) (sw : Int32) (tx : Int32) (ty : Int32) (tz : Int32) (DR : Nat → Int32) (LA : Nat → Int32) (LE : Nat → Int32) (CE : Nat → Int64) (FI : Nat → Int32) (CO : Nat → Int32) (CR : Nat → Int32) (SI : Nat → Int32) (SR : Nat → Int32) (MO : Nat → Int32) (BO : Nat → Int32) (PX : Nat → Int32) (PY : Nat → Int32) (PZ : Nat → Int32) (SX : Nat → Int32) (p1 : Int32) (p2 : Int32) (res : Int32) (hF : fX9_countOf FI CO CR SI SR BO p1 p2 = some res) : Met l yX9_countOf wsX9_countOf rX9_countOf (va_Pc [.ref h0, .int p1, .int p2] (pR G (wMod G h0 qDR qLA qLE qCE qFI qCO qCR qSI qSR qMO qBO qPX qPY qPZ qSX dr bo po sx sy sw tx ty tz DR LA LE CE FI CO CR SI SR MO BO PX PY PZ SX))) (vp_Si (fun r => r = res)) 0 0 (fun _ => False) := by
  refine Met.ofW (cc := cX9_countOf) (maxL := 3) (ret := (some .int)) (by decide) rfl ?_
  intro p e s m args below meth c s₁ B hml hv
  obtain ⟨rfl, hP, hK⟩ := hv
  have hx := B.exec
  have hb := B.bytes
  have hr := B.returns
  have hts := atoms_spec (ws := wsX9_countOf) B.pre
  have hown : s.vm.findClass RX9 = some m.cls := findClass_of_methodNamed B.named
  have hlocks := B.notSynchronized
  have hl := lv_entry ([.ref h0, .int p1, .int p2]) (n := 3) (Nat.le_of_ble_eq_true rfl)
  rw [lg_entry_eq]
  generalize (lg_sl ([.ref h0, .int p1, .int p2]) ++ List.replicate (3 - (lg_sl ([.ref h0, .int p1, .int p2])).length) Slot.unset).toArray = ls at hl ⊢
  have hl : lv_has ls 3 [(0, .ref h0), (1, .int p1), (2, .int p2)] := hl
  unfold fX9_countOf at hF
  refine lv_iload_n hx hb dX9_countOf_0 rfl (lv_at hl 2 rfl) ?_
  refine lv_if_ne (tgt := 8) hx hb dX9_countOf_1 (by decide) (fun c_1 => ?_) (fun c_1 => ?_)
  · replace hF := it_n c_1 hF
    refine lv_aload_n hx hb dX9_countOf_8 rfl (lv_at hl 0 rfl) ?_
    refine lv_iload_n hx hb dX9_countOf_9 rfl (lv_at hl 1 rfl) ?_
    refine lv_iload_n hx hb dX9_countOf_10 rfl (lv_at hl 2 rfl) ?_
    refine lv_iconst (v := 1) hx hb dX9_countOf_11 (by decide) ?_
    obtain ⟨v_2, hv_2, hF⟩ := bd_s hF
    refine ro_ie (va_runV (As := [.int p1, .int p2, .int 1]) (rest := []) ⟨hx, hb, hml, hown, hts⟩ (kX9_counted l G h0 qDR qLA qLE qCE qFI qCO qCR qSI qSR qMO qBO qPX qPY qPZ qSX dr bo po sx sy sw tx ty tz DR LA LE CE FI CO CR SI SR MO BO PX PY PZ SX p1 p2 1 v_2 hv_2) (cwV 3 hts gX9_countOf_X9_counted rfl rfl rfl (by decide +kernel) ⟨Nat.le_of_ble_eq_true rfl, Nat.le_of_ble_eq_true rfl⟩) (pvR (q0 := 0) 9 hK (hP.sub (ws' := (wMod G h0 qDR qLA qLE qCE qFI qCO qCR qSI qSR qMO qBO qPX qPY qPZ qSX dr bo po sx sy sw tx ty tz DR LA LE CE FI CO CR SI SR MO BO PX PY PZ SX)) [0, 1, 2, 3, 4, 5, 6, 7, 8, 9, 10, 11, 12, 13, 14, 15] rfl) rfl rfl) rfl rfl hl.1 rfl (lv_room (Nat.le_of_ble_eq_true rfl)) dX9_countOf_12 ⟨Nat.le_of_ble_eq_true rfl, Nat.le_of_ble_eq_true rfl⟩) ?_
    exact W.iret (v := v_2) hx hb hr  (fun t ht hW => ⟨v_2, rfl, (so_e hF), ht⟩) (fun q h => absurd h List.not_mem_nil) dX9_countOf_15
  · replace hF := it_p c_1 hF
    refine lv_iconst (v := 1) hx hb dX9_countOf_4 (by decide) ?_
    refine lv_goto (tgt := 15) hx hb dX9_countOf_5 (by decide) ?_
    exact W.iret (v := 1) hx hb hr  (fun t ht hW => ⟨1, rfl, (so_e hF), ht⟩) (fun q h => absurd h List.not_mem_nil) dX9_countOf_15
def JX9_isBrick_121 (CO : Nat → Int32) (CR : Nat → Int32) (k57 : Int32 → Int32 → Int32 → Option (Int32)) (a1 : Int32) (a4 : Int32) (t0 : Int32) : Option (Int32) :=
  (k57 a1 t0 (a4 + 1))
def JX9_isBrick_120 (CO : Nat → Int32) (CR : Nat → Int32) (k57 : Int32 → Int32 → Int32 → Option (Int32)) (a1 : Int32) (a4 : Int32) : Option (Int32) :=
  (JX9_isBrick_121 CO CR k57 a1 a4 0)
def JX9_isBrick_116 (CO : Nat → Int32) (CR : Nat → Int32) (k57 : Int32 → Int32 → Int32 → Option (Int32)) (a1 : Int32) (a4 : Int32) : Option (Int32) :=
  (JX9_isBrick_121 CO CR k57 a1 a4 1)
def LX9_isBrick_57 (CO : Nat → Int32) (CR : Nat → Int32)  : Nat → Int32 → Int32 → Int32 → Option (Int32)
  | 0, _, _, _ => none
  | k + 1, a1, a3, a4 =>
  (gd_in a1 8 (if 3 * (CO a1.toNatClampNeg) ≤ a4 then (gd_b a3 (some a3)) else (gd_in ((120 * a1) + a4) 960 (if a3 = 0 then (JX9_isBrick_120 CO CR (LX9_isBrick_57 CO CR k) a1 a4) else (bd (fX9_least CO CR a1 (a4 - a4 / 3 * 3)) (fun v_9 => (if CR ((120 * a1) + a4).toNatClampNeg = v_9 then (JX9_isBrick_116 CO CR (LX9_isBrick_57 CO CR k) a1 a4) else (bd (fX9_greatest CO CR a1 (a4 - a4 / 3 * 3)) (fun v_11 => (if CR ((120 * a1) + a4).toNatClampNeg = v_11 then (JX9_isBrick_116 CO CR (LX9_isBrick_57 CO CR k) a1 a4) else (JX9_isBrick_120 CO CR (LX9_isBrick_57 CO CR k) a1 a4)))))))))))
def JX9_isBrick_53 (CO : Nat → Int32) (CR : Nat → Int32)  (a1 : Int32) (t0 : Int32) : Option (Int32) :=
  (LX9_isBrick_57 CO CR FU a1 t0 0)
def JX9_isBrick_30 (CO : Nat → Int32) (CR : Nat → Int32) (k4 : Int32 → Int32 → Int32 → Option (Int32)) (a1 : Int32) (a3 : Int32) (t0 : Int32) (t1 : Int32) : Option (Int32) :=
  (k4 a1 (t1 * t0) (a3 + 1))
def LX9_isBrick_4 (CO : Nat → Int32) (CR : Nat → Int32)  : Nat → Int32 → Int32 → Int32 → Option (Int32)
  | 0, _, _, _ => none
  | k + 1, a1, a2, a3 =>
  (if 3 ≤ a3 then (gd_in a1 8 (if a2 = CO a1.toNatClampNeg then (JX9_isBrick_53 CO CR a1 1) else (JX9_isBrick_53 CO CR a1 0))) else (bd (fX9_least CO CR a1 a3) (fun v_13 => (bd (fX9_greatest CO CR a1 a3) (fun v_14 => (if v_13 = v_14 then (JX9_isBrick_30 CO CR (LX9_isBrick_4 CO CR k) a1 a3 1 a2) else (JX9_isBrick_30 CO CR (LX9_isBrick_4 CO CR k) a1 a3 2 a2)))))))
def fX9_isBrick (CO : Nat → Int32) (CR : Nat → Int32) (p1 : Int32) : Option (Int32) :=
  (LX9_isBrick_4 CO CR FU p1 1 0)
abbrev rX9_isBrick : Room := { frames := 1, cells := 0, slots := 0, locals := 25 }
set_option maxHeartbeats 40000000 in
set_option maxRecDepth 100000 in
theorem kX9_isBrick (l : Launch) (G : GT) (h0 qDR qLA qLE qCE qFI qCO qCR qSI qSR qMO qBO qPX qPY qPZ qSX : Nat) (dr : Int32) (bo : Int32) (po : Int32) (sx : Int32) (sy : Int32) (sw : Int32) (tx : Int32) (ty : Int32) (tz : Int32) (DR : Nat → Int32) (LA : Nat → Int32) (LE : Nat → Int32) (CE : Nat → Int64) (FI : Nat → Int32) (CO : Nat → Int32) (CR : Nat → Int32) (SI : Nat → Int32) (SR : Nat → Int32) (MO : Nat → Int32) (BO : Nat → Int32) (PX : Nat → Int32) (PY : Nat → Int32) (PZ : Nat → Int32) (SX : Nat → Int32) (p1 : Int32) (res : Int32) (hF : fX9_isBrick CO CR p1 = some res) : Met l yX9_isBrick wsX9_isBrick rX9_isBrick (va_Pc [.ref h0, .int p1] (pR G (wMod G h0 qDR qLA qLE qCE qFI qCO qCR qSI qSR qMO qBO qPX qPY qPZ qSX dr bo po sx sy sw tx ty tz DR LA LE CE FI CO CR SI SR MO BO PX PY PZ SX))) (vp_Si (fun r => r = res ∧ (r = 0 ∨ r = 1))) 0 0 (fun _ => False) := by
  refine Met.ofW (cc := cX9_isBrick) (maxL := 6) (ret := (some .boolean)) (by decide) rfl ?_
  intro p e s m args below meth c s₁ B hml hv
  obtain ⟨rfl, hP, hK⟩ := hv
  have hx := B.exec
  have hb := B.bytes
  have hr := B.returns
  have hts := atoms_spec (ws := wsX9_isBrick) B.pre
  have hown : s.vm.findClass RX9 = some m.cls := findClass_of_methodNamed B.named
  have hlocks := B.notSynchronized
  have hin9 : ∀ w ∈ u_ws RX9 TX9 24, w ∈ wsX9_isBrick := by decide +kernel
  have hfl26 := hts (.fieldLink RX9 26 "SwellBodiesModel" "corners" "[I") (by decide +kernel)
  have hfl29 := hts (.fieldLink RX9 29 "SwellBodiesModel" "cornerRow" "[I") (by decide +kernel)
  have hl := lv_entry ([.ref h0, .int p1]) (n := 6) (Nat.le_of_ble_eq_true rfl)
  rw [lg_entry_eq]
  generalize (lg_sl ([.ref h0, .int p1]) ++ List.replicate (6 - (lg_sl ([.ref h0, .int p1])).length) Slot.unset).toArray = ls at hl ⊢
  have hl : lv_has ls 6 [(0, .ref h0), (1, .int p1)] := hl
  have hJ121 : ∀ (k57 : Int32 → Int32 → Int32 → Option (Int32)), (∀ (a1 : Int32) (a3 : Int32) (a4 : Int32) (ls : Array Slot), k57 a1 a3 a4 = some res → lv_has ls 6 [(0, .ref h0), (1, .int a1), (3, .int a3), (4, .int a4)] → W p l e (headSpec wsX9_isBrick rX9_isBrick).room s m ([.ref h0, .int p1] : List Value).toArray below meth c s.heap [] 0 0 (MQ below (vp_Si (fun r => r = res ∧ (r = 0 ∨ r = 1))) ([.ref h0, .int p1] : List Value).toArray s 0 0 (fun _ => False)) (F0 m 57 ls [])) → ∀ (a1 : Int32) (a4 : Int32) (t0 : Int32) (ls : Array Slot), JX9_isBrick_121 CO CR k57 a1 a4 t0 = some res → lv_has ls 6 [(0, .ref h0), (1, .int a1), (4, .int a4)] → W p l e (headSpec wsX9_isBrick rX9_isBrick).room s m ([.ref h0, .int p1] : List Value).toArray below meth c s.heap [] 0 0 (MQ below (vp_Si (fun r => r = res ∧ (r = 0 ∨ r = 1))) ([.ref h0, .int p1] : List Value).toArray s 0 0 (fun _ => False)) (F0 m 121 ls [.int t0]) := by
    intro k57 hk57
    intro a1 a4 t0 ls hF hl
    unfold JX9_isBrick_121 at hF
    refine lv_istore_n (lv' := [(3, .int t0), (0, .ref h0), (1, .int a1), (4, .int a4)]) hx hb dX9_isBrick_121 rfl hl (by decide) rfl (fun ls hl => ?_)
    refine lv_iinc (v := a4 + 1) (lv' := [(4, .int (a4 + 1)), (3, .int t0), (0, .ref h0), (1, .int a1)]) hx hb dX9_isBrick_122 hl (k := 3) rfl rfl (by decide) rfl (fun ls hl => ?_)
    refine lv_goto (tgt := 57) hx hb dX9_isBrick_125 (by decide) ?_
    exact hk57 a1 t0 (a4 + 1) _ hF (lv_sub hl [2, 3, 1, 0] rfl)
  have hJ120 : ∀ (k57 : Int32 → Int32 → Int32 → Option (Int32)), (∀ (a1 : Int32) (a3 : Int32) (a4 : Int32) (ls : Array Slot), k57 a1 a3 a4 = some res → lv_has ls 6 [(0, .ref h0), (1, .int a1), (3, .int a3), (4, .int a4)] → W p l e (headSpec wsX9_isBrick rX9_isBrick).room s m ([.ref h0, .int p1] : List Value).toArray below meth c s.heap [] 0 0 (MQ below (vp_Si (fun r => r = res ∧ (r = 0 ∨ r = 1))) ([.ref h0, .int p1] : List Value).toArray s 0 0 (fun _ => False)) (F0 m 57 ls [])) → ∀ (a1 : Int32) (a4 : Int32) (ls : Array Slot), JX9_isBrick_120 CO CR k57 a1 a4 = some res → lv_has ls 6 [(0, .ref h0), (1, .int a1), (4, .int a4)] → W p l e (headSpec wsX9_isBrick rX9_isBrick).room s m ([.ref h0, .int p1] : List Value).toArray below meth c s.heap [] 0 0 (MQ below (vp_Si (fun r => r = res ∧ (r = 0 ∨ r = 1))) ([.ref h0, .int p1] : List Value).toArray s 0 0 (fun _ => False)) (F0 m 120 ls []) := by
    intro k57 hk57
    intro a1 a4 ls hF hl
    unfold JX9_isBrick_120 at hF
    refine lv_iconst (v := 0) hx hb dX9_isBrick_120 (by decide) ?_
    exact hJ121 _ hk57 a1 a4 0 _ hF (lv_sub hl [0, 1, 2] rfl)
  have hJ116 : ∀ (k57 : Int32 → Int32 → Int32 → Option (Int32)), (∀ (a1 : Int32) (a3 : Int32) (a4 : Int32) (ls : Array Slot), k57 a1 a3 a4 = some res → lv_has ls 6 [(0, .ref h0), (1, .int a1), (3, .int a3), (4, .int a4)] → W p l e (headSpec wsX9_isBrick rX9_isBrick).room s m ([.ref h0, .int p1] : List Value).toArray below meth c s.heap [] 0 0 (MQ below (vp_Si (fun r => r = res ∧ (r = 0 ∨ r = 1))) ([.ref h0, .int p1] : List Value).toArray s 0 0 (fun _ => False)) (F0 m 57 ls [])) → ∀ (a1 : Int32) (a4 : Int32) (ls : Array Slot), JX9_isBrick_116 CO CR k57 a1 a4 = some res → lv_has ls 6 [(0, .ref h0), (1, .int a1), (4, .int a4)] → W p l e (headSpec wsX9_isBrick rX9_isBrick).room s m ([.ref h0, .int p1] : List Value).toArray below meth c s.heap [] 0 0 (MQ below (vp_Si (fun r => r = res ∧ (r = 0 ∨ r = 1))) ([.ref h0, .int p1] : List Value).toArray s 0 0 (fun _ => False)) (F0 m 116 ls []) := by
    intro k57 hk57
    intro a1 a4 ls hF hl
    unfold JX9_isBrick_116 at hF
    refine lv_iconst (v := 1) hx hb dX9_isBrick_116 (by decide) ?_
    refine lv_goto (tgt := 121) hx hb dX9_isBrick_117 (by decide) ?_
    exact hJ121 _ hk57 a1 a4 1 _ hF (lv_sub hl [0, 1, 2] rfl)
  have hL57 : ∀ (k : Nat), ∀ (a1 : Int32) (a3 : Int32) (a4 : Int32) (ls : Array Slot), LX9_isBrick_57 CO CR k a1 a3 a4 = some res → lv_has ls 6 [(0, .ref h0), (1, .int a1), (3, .int a3), (4, .int a4)] → W p l e (headSpec wsX9_isBrick rX9_isBrick).room s m ([.ref h0, .int p1] : List Value).toArray below meth c s.heap [] 0 0 (MQ below (vp_Si (fun r => r = res ∧ (r = 0 ∨ r = 1))) ([.ref h0, .int p1] : List Value).toArray s 0 0 (fun _ => False)) (F0 m 57 ls []) := by
    intro k
    induction k with
    | zero =>
      intro a1 a3 a4 ls hF hl
      rw [LX9_isBrick_57] at hF
      cases hF
    | succ k ih =>
      intro a1 a3 a4 ls hF hl
      rw [LX9_isBrick_57] at hF
      refine lv_iload hx hb dX9_isBrick_57 (lv_at hl 3 rfl) ?_
      refine lv_iconst (v := 3) hx hb dX9_isBrick_59 (by decide) ?_
      refine lv_aload_n hx hb dX9_isBrick_60 rfl (lv_at hl 0 rfl) ?_
      refine va_get (ci := 9) (v := .ref qCO) (C := RX9) (T := TX9) (N := 24) hx hb hts hin9 hown hK hP 0 rfl rfl 7 (by decide) hfl26 (fun _ h9 => h9) rfl dX9_isBrick_61 ?_
      refine lv_iload_n hx hb dX9_isBrick_64 rfl (lv_at hl 1 rfl) ?_
      obtain ⟨hi_4, hF⟩ := gd_in_s hF
      refine va_iald hx hb hK hP 6 0 rfl rfl hi_4 dX9_isBrick_65 ?_
      refine lv_imul hx hb dX9_isBrick_66 ?_
      refine lv_icmp_ge (tgt := 128) hx hb dX9_isBrick_67 (by decide) (fun c_5 => ?_) (fun c_5 => ?_)
      · replace hF := it_p c_5 hF
        refine lv_iload_n hx hb dX9_isBrick_128 rfl (lv_at hl 2 rfl) ?_
        obtain ⟨hb_6, hF⟩ := gd_b_s hF
        exact W.zret (v := a3) hx hb hr (by rcases hb_6 with h | h <;> rw [h] <;> rfl) (fun t ht hW => ⟨a3, rfl, ⟨so_e hF, hb_6⟩, ht⟩) (fun q h => absurd h List.not_mem_nil) dX9_isBrick_129
      · replace hF := it_n c_5 hF
        refine lv_aload_n hx hb dX9_isBrick_70 rfl (lv_at hl 0 rfl) ?_
        refine va_get (ci := 9) (v := .ref qCR) (C := RX9) (T := TX9) (N := 24) hx hb hts hin9 hown hK hP 0 rfl rfl 8 (by decide) hfl29 (fun _ h9 => h9) rfl dX9_isBrick_71 ?_
        refine lv_bipush (v := 120) hx hb dX9_isBrick_74 (by decide) ?_
        refine lv_iload_n hx hb dX9_isBrick_76 rfl (lv_at hl 1 rfl) ?_
        refine lv_imul hx hb dX9_isBrick_77 ?_
        refine lv_iload hx hb dX9_isBrick_78 (lv_at hl 3 rfl) ?_
        refine lv_iadd hx hb dX9_isBrick_80 ?_
        obtain ⟨hi_7, hF⟩ := gd_in_s hF
        refine va_iald hx hb hK hP 7 0 rfl rfl hi_7 dX9_isBrick_81 ?_
        refine lv_istore (lv' := [(5, .int (CR ((120 * a1) + a4).toNatClampNeg)), (0, .ref h0), (1, .int a1), (3, .int a3), (4, .int a4)]) hx hb dX9_isBrick_82 hl (by decide) rfl (fun ls hl => ?_)
        refine lv_iload_n hx hb dX9_isBrick_84 rfl (lv_at hl 3 rfl) ?_
        refine lv_if_eq (tgt := 120) hx hb dX9_isBrick_85 (by decide) (fun c_8 => ?_) (fun c_8 => ?_)
        · replace hF := it_p c_8 hF
          exact hJ120 _ ih a1 a4 _ hF (lv_sub hl [1, 2, 4] rfl)
        · replace hF := it_n c_8 hF
          refine lv_iload hx hb dX9_isBrick_88 (lv_at hl 0 rfl) ?_
          refine lv_aload_n hx hb dX9_isBrick_90 rfl (lv_at hl 1 rfl) ?_
          refine lv_iload_n hx hb dX9_isBrick_91 rfl (lv_at hl 2 rfl) ?_
          refine lv_iload hx hb dX9_isBrick_92 (lv_at hl 4 rfl) ?_
          refine lv_iconst (v := 3) hx hb dX9_isBrick_94 (by decide) ?_
          refine lv_irem hx hb dX9_isBrick_95 (by decide) ?_
          obtain ⟨v_9, hv_9, hF⟩ := bd_s hF
          refine ro_ie (va_runV (As := [.int a1, .int (a4 - a4 / 3 * 3)]) (rest := [.int (CR ((120 * a1) + a4).toNatClampNeg)]) ⟨hx, hb, hml, hown, hts⟩ (kX9_least l G h0 qDR qLA qLE qCE qFI qCO qCR qSI qSR qMO qBO qPX qPY qPZ qSX dr bo po sx sy sw tx ty tz DR LA LE CE FI CO CR SI SR MO BO PX PY PZ SX a1 (a4 - a4 / 3 * 3) v_9 hv_9) (cwV 2 hts gX9_isBrick_X9_least rfl rfl rfl (by decide +kernel) ⟨Nat.le_of_ble_eq_true rfl, Nat.le_of_ble_eq_true rfl⟩) (pvR (q0 := 0) 9 hK (hP.sub (ws' := (wMod G h0 qDR qLA qLE qCE qFI qCO qCR qSI qSR qMO qBO qPX qPY qPZ qSX dr bo po sx sy sw tx ty tz DR LA LE CE FI CO CR SI SR MO BO PX PY PZ SX)) [0, 1, 2, 3, 4, 5, 6, 7, 8, 9, 10, 11, 12, 13, 14, 15] rfl) rfl rfl) rfl rfl hl.1 rfl (lv_room (Nat.le_of_ble_eq_true rfl)) dX9_isBrick_96 ⟨Nat.le_of_ble_eq_true rfl, Nat.le_of_ble_eq_true rfl⟩) ?_
          refine lv_icmp_eq (tgt := 116) hx hb dX9_isBrick_99 (by decide) (fun c_10 => ?_) (fun c_10 => ?_)
          · replace hF := it_p c_10 hF
            exact hJ116 _ ih a1 a4 _ hF (lv_sub hl [1, 2, 4] rfl)
          · replace hF := it_n c_10 hF
            refine lv_iload hx hb dX9_isBrick_102 (lv_at hl 0 rfl) ?_
            refine lv_aload_n hx hb dX9_isBrick_104 rfl (lv_at hl 1 rfl) ?_
            refine lv_iload_n hx hb dX9_isBrick_105 rfl (lv_at hl 2 rfl) ?_
            refine lv_iload hx hb dX9_isBrick_106 (lv_at hl 4 rfl) ?_
            refine lv_iconst (v := 3) hx hb dX9_isBrick_108 (by decide) ?_
            refine lv_irem hx hb dX9_isBrick_109 (by decide) ?_
            obtain ⟨v_11, hv_11, hF⟩ := bd_s hF
            refine ro_ie (va_runV (As := [.int a1, .int (a4 - a4 / 3 * 3)]) (rest := [.int (CR ((120 * a1) + a4).toNatClampNeg)]) ⟨hx, hb, hml, hown, hts⟩ (kX9_greatest l G h0 qDR qLA qLE qCE qFI qCO qCR qSI qSR qMO qBO qPX qPY qPZ qSX dr bo po sx sy sw tx ty tz DR LA LE CE FI CO CR SI SR MO BO PX PY PZ SX a1 (a4 - a4 / 3 * 3) v_11 hv_11) (cwV 2 hts gX9_isBrick_X9_greatest rfl rfl rfl (by decide +kernel) ⟨Nat.le_of_ble_eq_true rfl, Nat.le_of_ble_eq_true rfl⟩) (pvR (q0 := 0) 9 hK (hP.sub (ws' := (wMod G h0 qDR qLA qLE qCE qFI qCO qCR qSI qSR qMO qBO qPX qPY qPZ qSX dr bo po sx sy sw tx ty tz DR LA LE CE FI CO CR SI SR MO BO PX PY PZ SX)) [0, 1, 2, 3, 4, 5, 6, 7, 8, 9, 10, 11, 12, 13, 14, 15] rfl) rfl rfl) rfl rfl hl.1 rfl (lv_room (Nat.le_of_ble_eq_true rfl)) dX9_isBrick_110 ⟨Nat.le_of_ble_eq_true rfl, Nat.le_of_ble_eq_true rfl⟩) ?_
            refine lv_icmp_ne (tgt := 120) hx hb dX9_isBrick_113 (by decide) (fun c_12 => ?_) (fun c_12 => ?_)
            · replace hF := it_n c_12 hF
              exact hJ120 _ ih a1 a4 _ hF (lv_sub hl [1, 2, 4] rfl)
            · replace hF := it_p c_12 hF
              exact hJ116 _ ih a1 a4 _ hF (lv_sub hl [1, 2, 4] rfl)
  have hJ53 : ∀ (a1 : Int32) (t0 : Int32) (ls : Array Slot), JX9_isBrick_53 CO CR a1 t0 = some res → lv_has ls 6 [(0, .ref h0), (1, .int a1)] → W p l e (headSpec wsX9_isBrick rX9_isBrick).room s m ([.ref h0, .int p1] : List Value).toArray below meth c s.heap [] 0 0 (MQ below (vp_Si (fun r => r = res ∧ (r = 0 ∨ r = 1))) ([.ref h0, .int p1] : List Value).toArray s 0 0 (fun _ => False)) (F0 m 53 ls [.int t0]) := by
    intro a1 t0 ls hF hl
    unfold JX9_isBrick_53 at hF
    refine lv_istore_n (lv' := [(3, .int t0), (0, .ref h0), (1, .int a1)]) hx hb dX9_isBrick_53 rfl hl (by decide) rfl (fun ls hl => ?_)
    refine lv_iconst (v := 0) hx hb dX9_isBrick_54 (by decide) ?_
    refine lv_istore (lv' := [(4, .int 0), (3, .int t0), (0, .ref h0), (1, .int a1)]) hx hb dX9_isBrick_55 hl (by decide) rfl (fun ls hl => ?_)
    exact hL57 FU a1 t0 0 _ hF (lv_sub hl [2, 3, 1, 0] rfl)
  have hJ30 : ∀ (k4 : Int32 → Int32 → Int32 → Option (Int32)), (∀ (a1 : Int32) (a2 : Int32) (a3 : Int32) (ls : Array Slot), k4 a1 a2 a3 = some res → lv_has ls 6 [(0, .ref h0), (1, .int a1), (2, .int a2), (3, .int a3)] → W p l e (headSpec wsX9_isBrick rX9_isBrick).room s m ([.ref h0, .int p1] : List Value).toArray below meth c s.heap [] 0 0 (MQ below (vp_Si (fun r => r = res ∧ (r = 0 ∨ r = 1))) ([.ref h0, .int p1] : List Value).toArray s 0 0 (fun _ => False)) (F0 m 4 ls [])) → ∀ (a1 : Int32) (a3 : Int32) (t0 : Int32) (t1 : Int32) (ls : Array Slot), JX9_isBrick_30 CO CR k4 a1 a3 t0 t1 = some res → lv_has ls 6 [(0, .ref h0), (1, .int a1), (3, .int a3)] → W p l e (headSpec wsX9_isBrick rX9_isBrick).room s m ([.ref h0, .int p1] : List Value).toArray below meth c s.heap [] 0 0 (MQ below (vp_Si (fun r => r = res ∧ (r = 0 ∨ r = 1))) ([.ref h0, .int p1] : List Value).toArray s 0 0 (fun _ => False)) (F0 m 30 ls [.int t0, .int t1]) := by
    intro k4 hk4
    intro a1 a3 t0 t1 ls hF hl
    unfold JX9_isBrick_30 at hF
    refine lv_imul hx hb dX9_isBrick_30 ?_
    refine lv_istore_n (lv' := [(2, .int (t1 * t0)), (0, .ref h0), (1, .int a1), (3, .int a3)]) hx hb dX9_isBrick_31 rfl hl (by decide) rfl (fun ls hl => ?_)
    refine lv_iinc (v := a3 + 1) (lv' := [(3, .int (a3 + 1)), (2, .int (t1 * t0)), (0, .ref h0), (1, .int a1)]) hx hb dX9_isBrick_32 hl (k := 3) rfl rfl (by decide) rfl (fun ls hl => ?_)
    refine lv_goto (tgt := 4) hx hb dX9_isBrick_35 (by decide) ?_
    exact hk4 a1 (t1 * t0) (a3 + 1) _ hF (lv_sub hl [2, 3, 1, 0] rfl)
  have hL4 : ∀ (k : Nat), ∀ (a1 : Int32) (a2 : Int32) (a3 : Int32) (ls : Array Slot), LX9_isBrick_4 CO CR k a1 a2 a3 = some res → lv_has ls 6 [(0, .ref h0), (1, .int a1), (2, .int a2), (3, .int a3)] → W p l e (headSpec wsX9_isBrick rX9_isBrick).room s m ([.ref h0, .int p1] : List Value).toArray below meth c s.heap [] 0 0 (MQ below (vp_Si (fun r => r = res ∧ (r = 0 ∨ r = 1))) ([.ref h0, .int p1] : List Value).toArray s 0 0 (fun _ => False)) (F0 m 4 ls []) := by
    intro k
    induction k with
    | zero =>
      intro a1 a2 a3 ls hF hl
      rw [LX9_isBrick_4] at hF
      cases hF
    | succ k ih =>
      intro a1 a2 a3 ls hF hl
      rw [LX9_isBrick_4] at hF
      refine lv_iload_n hx hb dX9_isBrick_4 rfl (lv_at hl 3 rfl) ?_
      refine lv_iconst (v := 3) hx hb dX9_isBrick_5 (by decide) ?_
      refine lv_icmp_ge (tgt := 38) hx hb dX9_isBrick_6 (by decide) (fun c_1 => ?_) (fun c_1 => ?_)
      · replace hF := it_p c_1 hF
        refine lv_iload_n hx hb dX9_isBrick_38 rfl (lv_at hl 2 rfl) ?_
        refine lv_aload_n hx hb dX9_isBrick_39 rfl (lv_at hl 0 rfl) ?_
        refine va_get (ci := 9) (v := .ref qCO) (C := RX9) (T := TX9) (N := 24) hx hb hts hin9 hown hK hP 0 rfl rfl 7 (by decide) hfl26 (fun _ h9 => h9) rfl dX9_isBrick_40 ?_
        refine lv_iload_n hx hb dX9_isBrick_43 rfl (lv_at hl 1 rfl) ?_
        obtain ⟨hi_2, hF⟩ := gd_in_s hF
        refine va_iald hx hb hK hP 6 0 rfl rfl hi_2 dX9_isBrick_44 ?_
        refine lv_icmp_ne (tgt := 52) hx hb dX9_isBrick_45 (by decide) (fun c_3 => ?_) (fun c_3 => ?_)
        · replace hF := it_n c_3 hF
          refine lv_iconst (v := 0) hx hb dX9_isBrick_52 (by decide) ?_
          exact hJ53 a1 0 _ hF (lv_sub hl [0, 1] rfl)
        · replace hF := it_p c_3 hF
          refine lv_iconst (v := 1) hx hb dX9_isBrick_48 (by decide) ?_
          refine lv_goto (tgt := 53) hx hb dX9_isBrick_49 (by decide) ?_
          exact hJ53 a1 1 _ hF (lv_sub hl [0, 1] rfl)
      · replace hF := it_n c_1 hF
        refine lv_iload_n hx hb dX9_isBrick_9 rfl (lv_at hl 2 rfl) ?_
        refine lv_aload_n hx hb dX9_isBrick_10 rfl (lv_at hl 0 rfl) ?_
        refine lv_iload_n hx hb dX9_isBrick_11 rfl (lv_at hl 1 rfl) ?_
        refine lv_iload_n hx hb dX9_isBrick_12 rfl (lv_at hl 3 rfl) ?_
        obtain ⟨v_13, hv_13, hF⟩ := bd_s hF
        refine ro_ie (va_runV (As := [.int a1, .int a3]) (rest := [.int a2]) ⟨hx, hb, hml, hown, hts⟩ (kX9_least l G h0 qDR qLA qLE qCE qFI qCO qCR qSI qSR qMO qBO qPX qPY qPZ qSX dr bo po sx sy sw tx ty tz DR LA LE CE FI CO CR SI SR MO BO PX PY PZ SX a1 a3 v_13 hv_13) (cwV 2 hts gX9_isBrick_X9_least rfl rfl rfl (by decide +kernel) ⟨Nat.le_of_ble_eq_true rfl, Nat.le_of_ble_eq_true rfl⟩) (pvR (q0 := 0) 9 hK (hP.sub (ws' := (wMod G h0 qDR qLA qLE qCE qFI qCO qCR qSI qSR qMO qBO qPX qPY qPZ qSX dr bo po sx sy sw tx ty tz DR LA LE CE FI CO CR SI SR MO BO PX PY PZ SX)) [0, 1, 2, 3, 4, 5, 6, 7, 8, 9, 10, 11, 12, 13, 14, 15] rfl) rfl rfl) rfl rfl hl.1 rfl (lv_room (Nat.le_of_ble_eq_true rfl)) dX9_isBrick_13 ⟨Nat.le_of_ble_eq_true rfl, Nat.le_of_ble_eq_true rfl⟩) ?_
        refine lv_aload_n hx hb dX9_isBrick_16 rfl (lv_at hl 0 rfl) ?_
        refine lv_iload_n hx hb dX9_isBrick_17 rfl (lv_at hl 1 rfl) ?_
        refine lv_iload_n hx hb dX9_isBrick_18 rfl (lv_at hl 3 rfl) ?_
        obtain ⟨v_14, hv_14, hF⟩ := bd_s hF
        refine ro_ie (va_runV (As := [.int a1, .int a3]) (rest := [.int v_13, .int a2]) ⟨hx, hb, hml, hown, hts⟩ (kX9_greatest l G h0 qDR qLA qLE qCE qFI qCO qCR qSI qSR qMO qBO qPX qPY qPZ qSX dr bo po sx sy sw tx ty tz DR LA LE CE FI CO CR SI SR MO BO PX PY PZ SX a1 a3 v_14 hv_14) (cwV 2 hts gX9_isBrick_X9_greatest rfl rfl rfl (by decide +kernel) ⟨Nat.le_of_ble_eq_true rfl, Nat.le_of_ble_eq_true rfl⟩) (pvR (q0 := 0) 9 hK (hP.sub (ws' := (wMod G h0 qDR qLA qLE qCE qFI qCO qCR qSI qSR qMO qBO qPX qPY qPZ qSX dr bo po sx sy sw tx ty tz DR LA LE CE FI CO CR SI SR MO BO PX PY PZ SX)) [0, 1, 2, 3, 4, 5, 6, 7, 8, 9, 10, 11, 12, 13, 14, 15] rfl) rfl rfl) rfl rfl hl.1 rfl (lv_room (Nat.le_of_ble_eq_true rfl)) dX9_isBrick_19 ⟨Nat.le_of_ble_eq_true rfl, Nat.le_of_ble_eq_true rfl⟩) ?_
        refine lv_icmp_ne (tgt := 29) hx hb dX9_isBrick_22 (by decide) (fun c_15 => ?_) (fun c_15 => ?_)
        · replace hF := it_n c_15 hF
          refine lv_iconst (v := 2) hx hb dX9_isBrick_29 (by decide) ?_
          exact hJ30 _ ih a1 a3 2 a2 _ hF (lv_sub hl [0, 1, 3] rfl)
        · replace hF := it_p c_15 hF
          refine lv_iconst (v := 1) hx hb dX9_isBrick_25 (by decide) ?_
          refine lv_goto (tgt := 30) hx hb dX9_isBrick_26 (by decide) ?_
          exact hJ30 _ ih a1 a3 1 a2 _ hF (lv_sub hl [0, 1, 3] rfl)
  unfold fX9_isBrick at hF
  refine lv_iconst (v := 1) hx hb dX9_isBrick_0 (by decide) ?_
  refine lv_istore_n (lv' := [(2, .int 1), (0, .ref h0), (1, .int p1)]) hx hb dX9_isBrick_1 rfl hl (by decide) rfl (fun ls hl => ?_)
  refine lv_iconst (v := 0) hx hb dX9_isBrick_2 (by decide) ?_
  refine lv_istore_n (lv' := [(3, .int 0), (2, .int 1), (0, .ref h0), (1, .int p1)]) hx hb dX9_isBrick_3 rfl hl (by decide) rfl (fun ls hl => ?_)
  exact hL4 FU p1 1 0 _ hF (lv_sub hl [2, 3, 1, 0] rfl)
def JX9_isMirror_34 (CO : Nat → Int32) (CR : Nat → Int32) (k4 : Int32 → Int32 → Int32 → Option (Int32)) (a1 : Int32) (a3 : Int32) (t0 : Int32) : Option (Int32) :=
  (k4 a1 t0 (a3 + 1))
def JX9_isMirror_33 (CO : Nat → Int32) (CR : Nat → Int32) (k4 : Int32 → Int32 → Int32 → Option (Int32)) (a1 : Int32) (a3 : Int32) : Option (Int32) :=
  (JX9_isMirror_34 CO CR k4 a1 a3 0)
def LX9_isMirror_4 (CO : Nat → Int32) (CR : Nat → Int32)  : Nat → Int32 → Int32 → Int32 → Option (Int32)
  | 0, _, _, _ => none
  | k + 1, a1, a2, a3 =>
  (if 3 ≤ a3 then (gd_b a2 (some a2)) else (if a2 = 0 then (JX9_isMirror_33 CO CR (LX9_isMirror_4 CO CR k) a1 a3) else (bd (fX9_least CO CR a1 a3) (fun v_4 => (bd (fX9_greatest CO CR a1 a3) (fun v_5 => (if v_4 = -v_5 then (JX9_isMirror_34 CO CR (LX9_isMirror_4 CO CR k) a1 a3 1) else (JX9_isMirror_33 CO CR (LX9_isMirror_4 CO CR k) a1 a3))))))))
def fX9_isMirror (CO : Nat → Int32) (CR : Nat → Int32) (p1 : Int32) : Option (Int32) :=
  (LX9_isMirror_4 CO CR FU p1 1 0)
abbrev rX9_isMirror : Room := { frames := 1, cells := 0, slots := 0, locals := 25 }
set_option maxHeartbeats 40000000 in
set_option maxRecDepth 100000 in
theorem kX9_isMirror (l : Launch) (G : GT) (h0 qDR qLA qLE qCE qFI qCO qCR qSI qSR qMO qBO qPX qPY qPZ qSX : Nat) (dr : Int32) (bo : Int32) (po : Int32) (sx : Int32) (sy : Int32) (sw : Int32) (tx : Int32) (ty : Int32) (tz : Int32) (DR : Nat → Int32) (LA : Nat → Int32) (LE : Nat → Int32) (CE : Nat → Int64) (FI : Nat → Int32) (CO : Nat → Int32) (CR : Nat → Int32) (SI : Nat → Int32) (SR : Nat → Int32) (MO : Nat → Int32) (BO : Nat → Int32) (PX : Nat → Int32) (PY : Nat → Int32) (PZ : Nat → Int32) (SX : Nat → Int32) (p1 : Int32) (res : Int32) (hF : fX9_isMirror CO CR p1 = some res) : Met l yX9_isMirror wsX9_isMirror rX9_isMirror (va_Pc [.ref h0, .int p1] (pR G (wMod G h0 qDR qLA qLE qCE qFI qCO qCR qSI qSR qMO qBO qPX qPY qPZ qSX dr bo po sx sy sw tx ty tz DR LA LE CE FI CO CR SI SR MO BO PX PY PZ SX))) (vp_Si (fun r => r = res ∧ (r = 0 ∨ r = 1))) 0 0 (fun _ => False) := by
  refine Met.ofW (cc := cX9_isMirror) (maxL := 4) (ret := (some .boolean)) (by decide) rfl ?_
  intro p e s m args below meth c s₁ B hml hv
  obtain ⟨rfl, hP, hK⟩ := hv
  have hx := B.exec
  have hb := B.bytes
  have hr := B.returns
  have hts := atoms_spec (ws := wsX9_isMirror) B.pre
  have hown : s.vm.findClass RX9 = some m.cls := findClass_of_methodNamed B.named
  have hlocks := B.notSynchronized
  have hl := lv_entry ([.ref h0, .int p1]) (n := 4) (Nat.le_of_ble_eq_true rfl)
  rw [lg_entry_eq]
  generalize (lg_sl ([.ref h0, .int p1]) ++ List.replicate (4 - (lg_sl ([.ref h0, .int p1])).length) Slot.unset).toArray = ls at hl ⊢
  have hl : lv_has ls 4 [(0, .ref h0), (1, .int p1)] := hl
  have hJ34 : ∀ (k4 : Int32 → Int32 → Int32 → Option (Int32)), (∀ (a1 : Int32) (a2 : Int32) (a3 : Int32) (ls : Array Slot), k4 a1 a2 a3 = some res → lv_has ls 4 [(0, .ref h0), (1, .int a1), (2, .int a2), (3, .int a3)] → W p l e (headSpec wsX9_isMirror rX9_isMirror).room s m ([.ref h0, .int p1] : List Value).toArray below meth c s.heap [] 0 0 (MQ below (vp_Si (fun r => r = res ∧ (r = 0 ∨ r = 1))) ([.ref h0, .int p1] : List Value).toArray s 0 0 (fun _ => False)) (F0 m 4 ls [])) → ∀ (a1 : Int32) (a3 : Int32) (t0 : Int32) (ls : Array Slot), JX9_isMirror_34 CO CR k4 a1 a3 t0 = some res → lv_has ls 4 [(0, .ref h0), (1, .int a1), (3, .int a3)] → W p l e (headSpec wsX9_isMirror rX9_isMirror).room s m ([.ref h0, .int p1] : List Value).toArray below meth c s.heap [] 0 0 (MQ below (vp_Si (fun r => r = res ∧ (r = 0 ∨ r = 1))) ([.ref h0, .int p1] : List Value).toArray s 0 0 (fun _ => False)) (F0 m 34 ls [.int t0]) := by
    intro k4 hk4
    intro a1 a3 t0 ls hF hl
    unfold JX9_isMirror_34 at hF
    refine lv_istore_n (lv' := [(2, .int t0), (0, .ref h0), (1, .int a1), (3, .int a3)]) hx hb dX9_isMirror_34 rfl hl (by decide) rfl (fun ls hl => ?_)
    refine lv_iinc (v := a3 + 1) (lv' := [(3, .int (a3 + 1)), (2, .int t0), (0, .ref h0), (1, .int a1)]) hx hb dX9_isMirror_35 hl (k := 3) rfl rfl (by decide) rfl (fun ls hl => ?_)
    refine lv_goto (tgt := 4) hx hb dX9_isMirror_38 (by decide) ?_
    exact hk4 a1 t0 (a3 + 1) _ hF (lv_sub hl [2, 3, 1, 0] rfl)
  have hJ33 : ∀ (k4 : Int32 → Int32 → Int32 → Option (Int32)), (∀ (a1 : Int32) (a2 : Int32) (a3 : Int32) (ls : Array Slot), k4 a1 a2 a3 = some res → lv_has ls 4 [(0, .ref h0), (1, .int a1), (2, .int a2), (3, .int a3)] → W p l e (headSpec wsX9_isMirror rX9_isMirror).room s m ([.ref h0, .int p1] : List Value).toArray below meth c s.heap [] 0 0 (MQ below (vp_Si (fun r => r = res ∧ (r = 0 ∨ r = 1))) ([.ref h0, .int p1] : List Value).toArray s 0 0 (fun _ => False)) (F0 m 4 ls [])) → ∀ (a1 : Int32) (a3 : Int32) (ls : Array Slot), JX9_isMirror_33 CO CR k4 a1 a3 = some res → lv_has ls 4 [(0, .ref h0), (1, .int a1), (3, .int a3)] → W p l e (headSpec wsX9_isMirror rX9_isMirror).room s m ([.ref h0, .int p1] : List Value).toArray below meth c s.heap [] 0 0 (MQ below (vp_Si (fun r => r = res ∧ (r = 0 ∨ r = 1))) ([.ref h0, .int p1] : List Value).toArray s 0 0 (fun _ => False)) (F0 m 33 ls []) := by
    intro k4 hk4
    intro a1 a3 ls hF hl
    unfold JX9_isMirror_33 at hF
    refine lv_iconst (v := 0) hx hb dX9_isMirror_33 (by decide) ?_
    exact hJ34 _ hk4 a1 a3 0 _ hF (lv_sub hl [0, 1, 2] rfl)
  have hL4 : ∀ (k : Nat), ∀ (a1 : Int32) (a2 : Int32) (a3 : Int32) (ls : Array Slot), LX9_isMirror_4 CO CR k a1 a2 a3 = some res → lv_has ls 4 [(0, .ref h0), (1, .int a1), (2, .int a2), (3, .int a3)] → W p l e (headSpec wsX9_isMirror rX9_isMirror).room s m ([.ref h0, .int p1] : List Value).toArray below meth c s.heap [] 0 0 (MQ below (vp_Si (fun r => r = res ∧ (r = 0 ∨ r = 1))) ([.ref h0, .int p1] : List Value).toArray s 0 0 (fun _ => False)) (F0 m 4 ls []) := by
    intro k
    induction k with
    | zero =>
      intro a1 a2 a3 ls hF hl
      rw [LX9_isMirror_4] at hF
      cases hF
    | succ k ih =>
      intro a1 a2 a3 ls hF hl
      rw [LX9_isMirror_4] at hF
      refine lv_iload_n hx hb dX9_isMirror_4 rfl (lv_at hl 3 rfl) ?_
      refine lv_iconst (v := 3) hx hb dX9_isMirror_5 (by decide) ?_
      refine lv_icmp_ge (tgt := 41) hx hb dX9_isMirror_6 (by decide) (fun c_1 => ?_) (fun c_1 => ?_)
      · replace hF := it_p c_1 hF
        refine lv_iload_n hx hb dX9_isMirror_41 rfl (lv_at hl 2 rfl) ?_
        obtain ⟨hb_2, hF⟩ := gd_b_s hF
        exact W.zret (v := a2) hx hb hr (by rcases hb_2 with h | h <;> rw [h] <;> rfl) (fun t ht hW => ⟨a2, rfl, ⟨so_e hF, hb_2⟩, ht⟩) (fun q h => absurd h List.not_mem_nil) dX9_isMirror_42
      · replace hF := it_n c_1 hF
        refine lv_iload_n hx hb dX9_isMirror_9 rfl (lv_at hl 2 rfl) ?_
        refine lv_if_eq (tgt := 33) hx hb dX9_isMirror_10 (by decide) (fun c_3 => ?_) (fun c_3 => ?_)
        · replace hF := it_p c_3 hF
          exact hJ33 _ ih a1 a3 _ hF (lv_sub hl [0, 1, 3] rfl)
        · replace hF := it_n c_3 hF
          refine lv_aload_n hx hb dX9_isMirror_13 rfl (lv_at hl 0 rfl) ?_
          refine lv_iload_n hx hb dX9_isMirror_14 rfl (lv_at hl 1 rfl) ?_
          refine lv_iload_n hx hb dX9_isMirror_15 rfl (lv_at hl 3 rfl) ?_
          obtain ⟨v_4, hv_4, hF⟩ := bd_s hF
          refine ro_ie (va_runV (As := [.int a1, .int a3]) (rest := []) ⟨hx, hb, hml, hown, hts⟩ (kX9_least l G h0 qDR qLA qLE qCE qFI qCO qCR qSI qSR qMO qBO qPX qPY qPZ qSX dr bo po sx sy sw tx ty tz DR LA LE CE FI CO CR SI SR MO BO PX PY PZ SX a1 a3 v_4 hv_4) (cwV 2 hts gX9_isMirror_X9_least rfl rfl rfl (by decide +kernel) ⟨Nat.le_of_ble_eq_true rfl, Nat.le_of_ble_eq_true rfl⟩) (pvR (q0 := 0) 9 hK (hP.sub (ws' := (wMod G h0 qDR qLA qLE qCE qFI qCO qCR qSI qSR qMO qBO qPX qPY qPZ qSX dr bo po sx sy sw tx ty tz DR LA LE CE FI CO CR SI SR MO BO PX PY PZ SX)) [0, 1, 2, 3, 4, 5, 6, 7, 8, 9, 10, 11, 12, 13, 14, 15] rfl) rfl rfl) rfl rfl hl.1 rfl (lv_room (Nat.le_of_ble_eq_true rfl)) dX9_isMirror_16 ⟨Nat.le_of_ble_eq_true rfl, Nat.le_of_ble_eq_true rfl⟩) ?_
          refine lv_aload_n hx hb dX9_isMirror_19 rfl (lv_at hl 0 rfl) ?_
          refine lv_iload_n hx hb dX9_isMirror_20 rfl (lv_at hl 1 rfl) ?_
          refine lv_iload_n hx hb dX9_isMirror_21 rfl (lv_at hl 3 rfl) ?_
          obtain ⟨v_5, hv_5, hF⟩ := bd_s hF
          refine ro_ie (va_runV (As := [.int a1, .int a3]) (rest := [.int v_4]) ⟨hx, hb, hml, hown, hts⟩ (kX9_greatest l G h0 qDR qLA qLE qCE qFI qCO qCR qSI qSR qMO qBO qPX qPY qPZ qSX dr bo po sx sy sw tx ty tz DR LA LE CE FI CO CR SI SR MO BO PX PY PZ SX a1 a3 v_5 hv_5) (cwV 2 hts gX9_isMirror_X9_greatest rfl rfl rfl (by decide +kernel) ⟨Nat.le_of_ble_eq_true rfl, Nat.le_of_ble_eq_true rfl⟩) (pvR (q0 := 0) 9 hK (hP.sub (ws' := (wMod G h0 qDR qLA qLE qCE qFI qCO qCR qSI qSR qMO qBO qPX qPY qPZ qSX dr bo po sx sy sw tx ty tz DR LA LE CE FI CO CR SI SR MO BO PX PY PZ SX)) [0, 1, 2, 3, 4, 5, 6, 7, 8, 9, 10, 11, 12, 13, 14, 15] rfl) rfl rfl) rfl rfl hl.1 rfl (lv_room (Nat.le_of_ble_eq_true rfl)) dX9_isMirror_22 ⟨Nat.le_of_ble_eq_true rfl, Nat.le_of_ble_eq_true rfl⟩) ?_
          refine lv_ineg hx hb dX9_isMirror_25 ?_
          refine lv_icmp_ne (tgt := 33) hx hb dX9_isMirror_26 (by decide) (fun c_6 => ?_) (fun c_6 => ?_)
          · replace hF := it_n c_6 hF
            exact hJ33 _ ih a1 a3 _ hF (lv_sub hl [0, 1, 3] rfl)
          · replace hF := it_p c_6 hF
            refine lv_iconst (v := 1) hx hb dX9_isMirror_29 (by decide) ?_
            refine lv_goto (tgt := 34) hx hb dX9_isMirror_30 (by decide) ?_
            exact hJ34 _ ih a1 a3 1 _ hF (lv_sub hl [0, 1, 3] rfl)
  unfold fX9_isMirror at hF
  refine lv_iconst (v := 1) hx hb dX9_isMirror_0 (by decide) ?_
  refine lv_istore_n (lv' := [(2, .int 1), (0, .ref h0), (1, .int p1)]) hx hb dX9_isMirror_1 rfl hl (by decide) rfl (fun ls hl => ?_)
  refine lv_iconst (v := 0) hx hb dX9_isMirror_2 (by decide) ?_
  refine lv_istore_n (lv' := [(3, .int 0), (2, .int 1), (0, .ref h0), (1, .int p1)]) hx hb dX9_isMirror_3 rfl hl (by decide) rfl (fun ls hl => ?_)
  exact hL4 FU p1 1 0 _ hF (lv_sub hl [2, 3, 1, 0] rfl)
def fX9_about (bo : Int32) (FI : Nat → Int32) (CO : Nat → Int32) (CR : Nat → Int32) (SI : Nat → Int32) (MO : Nat → Int32) (p1 : Int32) (p2 : Int32) : Option (Int32) :=
  (bd (fX9_is bo p1) (fun v_1 => (if v_1 = 0 then (some (-1)) else (if p2 = 0 then (bd (fX9_isBrick CO CR p1) (fun v_5 => (if v_5 = 0 then (gd_in p1 8 (if CO p1.toNatClampNeg = (FI p1.toNatClampNeg) + 1 then (some 2) else (if 3 ≤ FI p1.toNatClampNeg then (some 0) else (some 1)))) else (bd (fX9_isMirror CO CR p1) (fun v_11 => (if v_11 = 0 then (some 3) else (some 4))))))) else (if p2 = 1 then (gd_in p1 8 (some (FI p1.toNatClampNeg))) else (if p2 = 2 then (gd_in p1 8 (some (CO p1.toNatClampNeg))) else (if p2 = 3 then (gd_in p1 8 (some (SI p1.toNatClampNeg))) else (if p2 = 4 then (gd_in p1 8 (some (MO p1.toNatClampNeg))) else (some (-1))))))))))
abbrev rX9_about : Room := { frames := 2, cells := 0, slots := 0, locals := 50 }
set_option maxHeartbeats 40000000 in
set_option maxRecDepth 100000 in
theorem kX9_about (l : Launch) (G : GT) (h0 qDR qLA qLE qCE qFI qCO qCR qSI qSR qMO qBO qPX qPY qPZ qSX : Nat) (dr : Int32) (bo : Int32) (po : Int32) (sx : Int32) (sy : Int32) (sw : Int32) (tx : Int32) (ty : Int32) (tz : Int32) (DR : Nat → Int32) (LA : Nat → Int32) (LE : Nat → Int32) (CE : Nat → Int64) (FI : Nat → Int32) (CO : Nat → Int32) (CR : Nat → Int32) (SI : Nat → Int32) (SR : Nat → Int32) (MO : Nat → Int32) (BO : Nat → Int32) (PX : Nat → Int32) (PY : Nat → Int32) (PZ : Nat → Int32) (SX : Nat → Int32) (p1 : Int32) (p2 : Int32) (res : Int32) (hF : fX9_about bo FI CO CR SI MO p1 p2 = some res) : Met l yX9_about wsX9_about rX9_about (va_Pc [.ref h0, .int p1, .int p2] (pR G (wMod G h0 qDR qLA qLE qCE qFI qCO qCR qSI qSR qMO qBO qPX qPY qPZ qSX dr bo po sx sy sw tx ty tz DR LA LE CE FI CO CR SI SR MO BO PX PY PZ SX))) (vp_Si (fun r => r = res)) 0 0 (fun _ => False) := by
  refine Met.ofW (cc := cX9_about) (maxL := 3) (ret := (some .int)) (by decide) rfl ?_
  intro p e s m args below meth c s₁ B hml hv
  obtain ⟨rfl, hP, hK⟩ := hv
  have hx := B.exec
  have hb := B.bytes
  have hr := B.returns
  have hts := atoms_spec (ws := wsX9_about) B.pre
  have hown : s.vm.findClass RX9 = some m.cls := findClass_of_methodNamed B.named
  have hlocks := B.notSynchronized
  have hin9 : ∀ w ∈ u_ws RX9 TX9 24, w ∈ wsX9_about := by decide +kernel
  have hfl26 := hts (.fieldLink RX9 26 "SwellBodiesModel" "corners" "[I") (by decide +kernel)
  have hfl23 := hts (.fieldLink RX9 23 "SwellBodiesModel" "fills" "[I") (by decide +kernel)
  have hfl32 := hts (.fieldLink RX9 32 "SwellBodiesModel" "sides" "[I") (by decide +kernel)
  have hfl38 := hts (.fieldLink RX9 38 "SwellBodiesModel" "madeOf" "[I") (by decide +kernel)
  have hl := lv_entry ([.ref h0, .int p1, .int p2]) (n := 3) (Nat.le_of_ble_eq_true rfl)
  rw [lg_entry_eq]
  generalize (lg_sl ([.ref h0, .int p1, .int p2]) ++ List.replicate (3 - (lg_sl ([.ref h0, .int p1, .int p2])).length) Slot.unset).toArray = ls at hl ⊢
  have hl : lv_has ls 3 [(0, .ref h0), (1, .int p1), (2, .int p2)] := hl
  unfold fX9_about at hF
  refine lv_aload_n hx hb dX9_about_0 rfl (lv_at hl 0 rfl) ?_
  refine lv_iload_n hx hb dX9_about_1 rfl (lv_at hl 1 rfl) ?_
  obtain ⟨v_1, hv_1, hF⟩ := bd_s hF
  refine ro_ze (va_runV (As := [.int p1]) (rest := []) ⟨hx, hb, hml, hown, hts⟩ (kX9_is l G h0 qDR qLA qLE qCE qFI qCO qCR qSI qSR qMO qBO qPX qPY qPZ qSX dr bo po sx sy sw tx ty tz DR LA LE CE FI CO CR SI SR MO BO PX PY PZ SX p1 v_1 hv_1) (cwV 1 hts gX9_about_X9_is rfl rfl rfl (by decide +kernel) ⟨Nat.le_of_ble_eq_true rfl, Nat.le_of_ble_eq_true rfl⟩) (pvR (q0 := 0) 9 hK (hP.sub (ws' := (wMod G h0 qDR qLA qLE qCE qFI qCO qCR qSI qSR qMO qBO qPX qPY qPZ qSX dr bo po sx sy sw tx ty tz DR LA LE CE FI CO CR SI SR MO BO PX PY PZ SX)) [0, 1, 2, 3, 4, 5, 6, 7, 8, 9, 10, 11, 12, 13, 14, 15] rfl) rfl rfl) rfl rfl hl.1 rfl (lv_room (Nat.le_of_ble_eq_true rfl)) dX9_about_2 ⟨Nat.le_of_ble_eq_true rfl, Nat.le_of_ble_eq_true rfl⟩) (fun hb_2 => ?_)
  refine lv_if_ne (tgt := 10) hx hb dX9_about_5 (by decide) (fun c_3 => ?_) (fun c_3 => ?_)
  · replace hF := it_n c_3 hF
    refine lv_iload_n hx hb dX9_about_10 rfl (lv_at hl 2 rfl) ?_
    by_cases c_4 : p2 = 0
    · replace hF := it_p c_4 hF
      refine lv_tableIn (off := 33) (tgt := 44) hx hb dX9_about_11 (by rw [c_4]; decide) (by rw [c_4]; decide) (by rw [c_4]; decide) (by decide) ?_
      refine lv_aload_n hx hb dX9_about_44 rfl (lv_at hl 0 rfl) ?_
      refine lv_iload_n hx hb dX9_about_45 rfl (lv_at hl 1 rfl) ?_
      obtain ⟨v_5, hv_5, hF⟩ := bd_s hF
      refine ro_ze (va_runV (As := [.int p1]) (rest := []) ⟨hx, hb, hml, hown, hts⟩ (kX9_isBrick l G h0 qDR qLA qLE qCE qFI qCO qCR qSI qSR qMO qBO qPX qPY qPZ qSX dr bo po sx sy sw tx ty tz DR LA LE CE FI CO CR SI SR MO BO PX PY PZ SX p1 v_5 hv_5) (cwV 1 hts gX9_about_X9_isBrick rfl rfl rfl (by decide +kernel) ⟨Nat.le_of_ble_eq_true rfl, Nat.le_of_ble_eq_true rfl⟩) (pvR (q0 := 0) 9 hK (hP.sub (ws' := (wMod G h0 qDR qLA qLE qCE qFI qCO qCR qSI qSR qMO qBO qPX qPY qPZ qSX dr bo po sx sy sw tx ty tz DR LA LE CE FI CO CR SI SR MO BO PX PY PZ SX)) [0, 1, 2, 3, 4, 5, 6, 7, 8, 9, 10, 11, 12, 13, 14, 15] rfl) rfl rfl) rfl rfl hl.1 rfl (lv_room (Nat.le_of_ble_eq_true rfl)) dX9_about_46 ⟨Nat.le_of_ble_eq_true rfl, Nat.le_of_ble_eq_true rfl⟩) (fun hb_6 => ?_)
      refine lv_if_eq (tgt := 68) hx hb dX9_about_49 (by decide) (fun c_7 => ?_) (fun c_7 => ?_)
      · replace hF := it_p c_7 hF
        refine lv_aload_n hx hb dX9_about_68 rfl (lv_at hl 0 rfl) ?_
        refine va_get (ci := 9) (v := .ref qCO) (C := RX9) (T := TX9) (N := 24) hx hb hts hin9 hown hK hP 0 rfl rfl 7 (by decide) hfl26 (fun _ h9 => h9) rfl dX9_about_69 ?_
        refine lv_iload_n hx hb dX9_about_72 rfl (lv_at hl 1 rfl) ?_
        obtain ⟨hi_8, hF⟩ := gd_in_s hF
        refine va_iald hx hb hK hP 6 0 rfl rfl hi_8 dX9_about_73 ?_
        refine lv_aload_n hx hb dX9_about_74 rfl (lv_at hl 0 rfl) ?_
        refine va_get (ci := 9) (v := .ref qFI) (C := RX9) (T := TX9) (N := 24) hx hb hts hin9 hown hK hP 0 rfl rfl 6 (by decide) hfl23 (fun _ h9 => h9) rfl dX9_about_75 ?_
        refine lv_iload_n hx hb dX9_about_78 rfl (lv_at hl 1 rfl) ?_
        refine va_iald hx hb hK hP 5 0 rfl rfl hi_8 dX9_about_79 ?_
        refine lv_iconst (v := 1) hx hb dX9_about_80 (by decide) ?_
        refine lv_iadd hx hb dX9_about_81 ?_
        refine lv_icmp_ne (tgt := 89) hx hb dX9_about_82 (by decide) (fun c_9 => ?_) (fun c_9 => ?_)
        · replace hF := it_n c_9 hF
          refine lv_aload_n hx hb dX9_about_89 rfl (lv_at hl 0 rfl) ?_
          refine va_get (ci := 9) (v := .ref qFI) (C := RX9) (T := TX9) (N := 24) hx hb hts hin9 hown hK hP 0 rfl rfl 6 (by decide) hfl23 (fun _ h9 => h9) rfl dX9_about_90 ?_
          refine lv_iload_n hx hb dX9_about_93 rfl (lv_at hl 1 rfl) ?_
          refine va_iald hx hb hK hP 5 0 rfl rfl hi_8 dX9_about_94 ?_
          refine lv_iconst (v := 3) hx hb dX9_about_95 (by decide) ?_
          refine lv_icmp_ge (tgt := 103) hx hb dX9_about_96 (by decide) (fun c_10 => ?_) (fun c_10 => ?_)
          · replace hF := it_p c_10 hF
            refine lv_iconst (v := 0) hx hb dX9_about_103 (by decide) ?_
            exact W.iret (v := 0) hx hb hr  (fun t ht hW => ⟨0, rfl, (so_e hF), ht⟩) (fun q h => absurd h List.not_mem_nil) dX9_about_104
          · replace hF := it_n c_10 hF
            refine lv_iconst (v := 1) hx hb dX9_about_99 (by decide) ?_
            refine lv_goto (tgt := 104) hx hb dX9_about_100 (by decide) ?_
            exact W.iret (v := 1) hx hb hr  (fun t ht hW => ⟨1, rfl, (so_e hF), ht⟩) (fun q h => absurd h List.not_mem_nil) dX9_about_104
        · replace hF := it_p c_9 hF
          refine lv_iconst (v := 2) hx hb dX9_about_85 (by decide) ?_
          refine lv_goto (tgt := 104) hx hb dX9_about_86 (by decide) ?_
          exact W.iret (v := 2) hx hb hr  (fun t ht hW => ⟨2, rfl, (so_e hF), ht⟩) (fun q h => absurd h List.not_mem_nil) dX9_about_104
      · replace hF := it_n c_7 hF
        refine lv_aload_n hx hb dX9_about_52 rfl (lv_at hl 0 rfl) ?_
        refine lv_iload_n hx hb dX9_about_53 rfl (lv_at hl 1 rfl) ?_
        obtain ⟨v_11, hv_11, hF⟩ := bd_s hF
        refine ro_ze (va_runV (As := [.int p1]) (rest := []) ⟨hx, hb, hml, hown, hts⟩ (kX9_isMirror l G h0 qDR qLA qLE qCE qFI qCO qCR qSI qSR qMO qBO qPX qPY qPZ qSX dr bo po sx sy sw tx ty tz DR LA LE CE FI CO CR SI SR MO BO PX PY PZ SX p1 v_11 hv_11) (cwV 1 hts gX9_about_X9_isMirror rfl rfl rfl (by decide +kernel) ⟨Nat.le_of_ble_eq_true rfl, Nat.le_of_ble_eq_true rfl⟩) (pvR (q0 := 0) 9 hK (hP.sub (ws' := (wMod G h0 qDR qLA qLE qCE qFI qCO qCR qSI qSR qMO qBO qPX qPY qPZ qSX dr bo po sx sy sw tx ty tz DR LA LE CE FI CO CR SI SR MO BO PX PY PZ SX)) [0, 1, 2, 3, 4, 5, 6, 7, 8, 9, 10, 11, 12, 13, 14, 15] rfl) rfl rfl) rfl rfl hl.1 rfl (lv_room (Nat.le_of_ble_eq_true rfl)) dX9_about_54 ⟨Nat.le_of_ble_eq_true rfl, Nat.le_of_ble_eq_true rfl⟩) (fun hb_12 => ?_)
        refine lv_if_eq (tgt := 64) hx hb dX9_about_57 (by decide) (fun c_13 => ?_) (fun c_13 => ?_)
        · replace hF := it_p c_13 hF
          refine lv_iconst (v := 3) hx hb dX9_about_64 (by decide) ?_
          refine lv_goto (tgt := 104) hx hb dX9_about_65 (by decide) ?_
          exact W.iret (v := 3) hx hb hr  (fun t ht hW => ⟨3, rfl, (so_e hF), ht⟩) (fun q h => absurd h List.not_mem_nil) dX9_about_104
        · replace hF := it_n c_13 hF
          refine lv_iconst (v := 4) hx hb dX9_about_60 (by decide) ?_
          refine lv_goto (tgt := 104) hx hb dX9_about_61 (by decide) ?_
          exact W.iret (v := 4) hx hb hr  (fun t ht hW => ⟨4, rfl, (so_e hF), ht⟩) (fun q h => absurd h List.not_mem_nil) dX9_about_104
    · replace hF := it_n c_4 hF
      by_cases c_14 : p2 = 1
      · replace hF := it_p c_14 hF
        refine lv_tableIn (off := 94) (tgt := 105) hx hb dX9_about_11 (by rw [c_14]; decide) (by rw [c_14]; decide) (by rw [c_14]; decide) (by decide) ?_
        refine lv_aload_n hx hb dX9_about_105 rfl (lv_at hl 0 rfl) ?_
        refine va_get (ci := 9) (v := .ref qFI) (C := RX9) (T := TX9) (N := 24) hx hb hts hin9 hown hK hP 0 rfl rfl 6 (by decide) hfl23 (fun _ h9 => h9) rfl dX9_about_106 ?_
        refine lv_iload_n hx hb dX9_about_109 rfl (lv_at hl 1 rfl) ?_
        obtain ⟨hi_15, hF⟩ := gd_in_s hF
        refine va_iald hx hb hK hP 5 0 rfl rfl hi_15 dX9_about_110 ?_
        exact W.iret (v := FI p1.toNatClampNeg) hx hb hr  (fun t ht hW => ⟨FI p1.toNatClampNeg, rfl, (so_e hF), ht⟩) (fun q h => absurd h List.not_mem_nil) dX9_about_111
      · replace hF := it_n c_14 hF
        by_cases c_16 : p2 = 2
        · replace hF := it_p c_16 hF
          refine lv_tableIn (off := 101) (tgt := 112) hx hb dX9_about_11 (by rw [c_16]; decide) (by rw [c_16]; decide) (by rw [c_16]; decide) (by decide) ?_
          refine lv_aload_n hx hb dX9_about_112 rfl (lv_at hl 0 rfl) ?_
          refine va_get (ci := 9) (v := .ref qCO) (C := RX9) (T := TX9) (N := 24) hx hb hts hin9 hown hK hP 0 rfl rfl 7 (by decide) hfl26 (fun _ h9 => h9) rfl dX9_about_113 ?_
          refine lv_iload_n hx hb dX9_about_116 rfl (lv_at hl 1 rfl) ?_
          obtain ⟨hi_17, hF⟩ := gd_in_s hF
          refine va_iald hx hb hK hP 6 0 rfl rfl hi_17 dX9_about_117 ?_
          exact W.iret (v := CO p1.toNatClampNeg) hx hb hr  (fun t ht hW => ⟨CO p1.toNatClampNeg, rfl, (so_e hF), ht⟩) (fun q h => absurd h List.not_mem_nil) dX9_about_118
        · replace hF := it_n c_16 hF
          by_cases c_18 : p2 = 3
          · replace hF := it_p c_18 hF
            refine lv_tableIn (off := 108) (tgt := 119) hx hb dX9_about_11 (by rw [c_18]; decide) (by rw [c_18]; decide) (by rw [c_18]; decide) (by decide) ?_
            refine lv_aload_n hx hb dX9_about_119 rfl (lv_at hl 0 rfl) ?_
            refine va_get (ci := 9) (v := .ref qSI) (C := RX9) (T := TX9) (N := 24) hx hb hts hin9 hown hK hP 0 rfl rfl 9 (by decide) hfl32 (fun _ h9 => h9) rfl dX9_about_120 ?_
            refine lv_iload_n hx hb dX9_about_123 rfl (lv_at hl 1 rfl) ?_
            obtain ⟨hi_19, hF⟩ := gd_in_s hF
            refine va_iald hx hb hK hP 8 0 rfl rfl hi_19 dX9_about_124 ?_
            exact W.iret (v := SI p1.toNatClampNeg) hx hb hr  (fun t ht hW => ⟨SI p1.toNatClampNeg, rfl, (so_e hF), ht⟩) (fun q h => absurd h List.not_mem_nil) dX9_about_125
          · replace hF := it_n c_18 hF
            by_cases c_20 : p2 = 4
            · replace hF := it_p c_20 hF
              refine lv_tableIn (off := 115) (tgt := 126) hx hb dX9_about_11 (by rw [c_20]; decide) (by rw [c_20]; decide) (by rw [c_20]; decide) (by decide) ?_
              refine lv_aload_n hx hb dX9_about_126 rfl (lv_at hl 0 rfl) ?_
              refine va_get (ci := 9) (v := .ref qMO) (C := RX9) (T := TX9) (N := 24) hx hb hts hin9 hown hK hP 0 rfl rfl 11 (by decide) hfl38 (fun _ h9 => h9) rfl dX9_about_127 ?_
              refine lv_iload_n hx hb dX9_about_130 rfl (lv_at hl 1 rfl) ?_
              obtain ⟨hi_21, hF⟩ := gd_in_s hF
              refine va_iald hx hb hK hP 10 0 rfl rfl hi_21 dX9_about_131 ?_
              exact W.iret (v := MO p1.toNatClampNeg) hx hb hr  (fun t ht hW => ⟨MO p1.toNatClampNeg, rfl, (so_e hF), ht⟩) (fun q h => absurd h List.not_mem_nil) dX9_about_132
            · replace hF := it_n c_20 hF
              refine lv_tableOut (tgt := 133) hx hb dX9_about_11 (by have e0 : p2.toInt ≠ 0 := ne_t c_4; have e1 : p2.toInt ≠ 1 := ne_t c_14; have e2 : p2.toInt ≠ 2 := ne_t c_16; have e3 : p2.toInt ≠ 3 := ne_t c_18; have e4 : p2.toInt ≠ 4 := ne_t c_20; omega) (by decide) ?_
              refine lv_iconst (v := (-1)) hx hb dX9_about_133 (by decide) ?_
              exact W.iret (v := (-1)) hx hb hr  (fun t ht hW => ⟨(-1), rfl, (so_e hF), ht⟩) (fun q h => absurd h List.not_mem_nil) dX9_about_134
  · replace hF := it_p c_3 hF
    refine lv_iconst (v := (-1)) hx hb dX9_about_8 (by decide) ?_
    exact W.iret (v := (-1)) hx hb hr  (fun t ht hW => ⟨(-1), rfl, (so_e hF), ht⟩) (fun q h => absurd h List.not_mem_nil) dX9_about_9
def fX9_cornerOf (bo : Int32) (CO : Nat → Int32) (CR : Nat → Int32) (p1 : Int32) (p2 : Int32) (p3 : Int32) : Option (Int32) :=
  (bd (fX9_is bo p1) (fun v_1 => (if v_1 = 0 then (some 1000) else (gd_in p1 8 (bd (fX9_in p2.toInt64 0 (((CO p1.toNatClampNeg) - 1).toInt64)) (fun v_5 => (if v_5 = 0 then (some 1000) else (bd (fX9_in p3.toInt64 0 2) (fun v_8 => (if v_8 = 0 then (some 1000) else (gd_in (((120 * p1) + (3 * p2)) + p3) 960 (some (CR (((120 * p1) + (3 * p2)) + p3).toNatClampNeg)))))))))))))
abbrev rX9_cornerOf : Room := { frames := 2, cells := 0, slots := 0, locals := 46 }
set_option maxHeartbeats 40000000 in
set_option maxRecDepth 100000 in
theorem kX9_cornerOf (l : Launch) (G : GT) (h0 qDR qLA qLE qCE qFI qCO qCR qSI qSR qMO qBO qPX qPY qPZ qSX : Nat) (dr : Int32) (bo : Int32) (po : Int32) (sx : Int32) (sy : Int32) (sw : Int32) (tx : Int32) (ty : Int32) (tz : Int32) (DR : Nat → Int32) (LA : Nat → Int32) (LE : Nat → Int32) (CE : Nat → Int64) (FI : Nat → Int32) (CO : Nat → Int32) (CR : Nat → Int32) (SI : Nat → Int32) (SR : Nat → Int32) (MO : Nat → Int32) (BO : Nat → Int32) (PX : Nat → Int32) (PY : Nat → Int32) (PZ : Nat → Int32) (SX : Nat → Int32) (p1 : Int32) (p2 : Int32) (p3 : Int32) (res : Int32) (hF : fX9_cornerOf bo CO CR p1 p2 p3 = some res) : Met l yX9_cornerOf wsX9_cornerOf rX9_cornerOf (va_Pc [.ref h0, .int p1, .int p2, .int p3] (pR G (wMod G h0 qDR qLA qLE qCE qFI qCO qCR qSI qSR qMO qBO qPX qPY qPZ qSX dr bo po sx sy sw tx ty tz DR LA LE CE FI CO CR SI SR MO BO PX PY PZ SX))) (vp_Si (fun r => r = res)) 0 0 (fun _ => False) := by
  refine Met.ofW (cc := cX9_cornerOf) (maxL := 4) (ret := (some .int)) (by decide) rfl ?_
  intro p e s m args below meth c s₁ B hml hv
  obtain ⟨rfl, hP, hK⟩ := hv
  have hx := B.exec
  have hb := B.bytes
  have hr := B.returns
  have hts := atoms_spec (ws := wsX9_cornerOf) B.pre
  have hown : s.vm.findClass RX9 = some m.cls := findClass_of_methodNamed B.named
  have hlocks := B.notSynchronized
  have hin9 : ∀ w ∈ u_ws RX9 TX9 24, w ∈ wsX9_cornerOf := by decide +kernel
  have hfl26 := hts (.fieldLink RX9 26 "SwellBodiesModel" "corners" "[I") (by decide +kernel)
  have hcn166 := hts (.constantLong RX9 166 (2)) (by decide +kernel)
  have hfl29 := hts (.fieldLink RX9 29 "SwellBodiesModel" "cornerRow" "[I") (by decide +kernel)
  have hl := lv_entry ([.ref h0, .int p1, .int p2, .int p3]) (n := 4) (Nat.le_of_ble_eq_true rfl)
  rw [lg_entry_eq]
  generalize (lg_sl ([.ref h0, .int p1, .int p2, .int p3]) ++ List.replicate (4 - (lg_sl ([.ref h0, .int p1, .int p2, .int p3])).length) Slot.unset).toArray = ls at hl ⊢
  have hl : lv_has ls 4 [(0, .ref h0), (1, .int p1), (2, .int p2), (3, .int p3)] := hl
  unfold fX9_cornerOf at hF
  refine lv_aload_n hx hb dX9_cornerOf_0 rfl (lv_at hl 0 rfl) ?_
  refine lv_iload_n hx hb dX9_cornerOf_1 rfl (lv_at hl 1 rfl) ?_
  obtain ⟨v_1, hv_1, hF⟩ := bd_s hF
  refine ro_ze (va_runV (As := [.int p1]) (rest := []) ⟨hx, hb, hml, hown, hts⟩ (kX9_is l G h0 qDR qLA qLE qCE qFI qCO qCR qSI qSR qMO qBO qPX qPY qPZ qSX dr bo po sx sy sw tx ty tz DR LA LE CE FI CO CR SI SR MO BO PX PY PZ SX p1 v_1 hv_1) (cwV 1 hts gX9_cornerOf_X9_is rfl rfl rfl (by decide +kernel) ⟨Nat.le_of_ble_eq_true rfl, Nat.le_of_ble_eq_true rfl⟩) (pvR (q0 := 0) 9 hK (hP.sub (ws' := (wMod G h0 qDR qLA qLE qCE qFI qCO qCR qSI qSR qMO qBO qPX qPY qPZ qSX dr bo po sx sy sw tx ty tz DR LA LE CE FI CO CR SI SR MO BO PX PY PZ SX)) [0, 1, 2, 3, 4, 5, 6, 7, 8, 9, 10, 11, 12, 13, 14, 15] rfl) rfl rfl) rfl rfl hl.1 rfl (lv_room (Nat.le_of_ble_eq_true rfl)) dX9_cornerOf_2 ⟨Nat.le_of_ble_eq_true rfl, Nat.le_of_ble_eq_true rfl⟩) (fun hb_2 => ?_)
  refine lv_if_eq (tgt := 56) hx hb dX9_cornerOf_5 (by decide) (fun c_3 => ?_) (fun c_3 => ?_)
  · replace hF := it_p c_3 hF
    refine lv_sipush (v := 1000) hx hb dX9_cornerOf_56 (by decide) ?_
    exact W.iret (v := 1000) hx hb hr  (fun t ht hW => ⟨1000, rfl, (so_e hF), ht⟩) (fun q h => absurd h List.not_mem_nil) dX9_cornerOf_59
  · replace hF := it_n c_3 hF
    refine lv_iload_n hx hb dX9_cornerOf_8 rfl (lv_at hl 2 rfl) ?_
    refine lv_i2l hx hb dX9_cornerOf_9 rfl ?_
    refine lv_lconst (v := 0) hx hb dX9_cornerOf_10 (by decide) ?_
    refine lv_aload_n hx hb dX9_cornerOf_11 rfl (lv_at hl 0 rfl) ?_
    refine va_get (ci := 9) (v := .ref qCO) (C := RX9) (T := TX9) (N := 24) hx hb hts hin9 hown hK hP 0 rfl rfl 7 (by decide) hfl26 (fun _ h9 => h9) rfl dX9_cornerOf_12 ?_
    refine lv_iload_n hx hb dX9_cornerOf_15 rfl (lv_at hl 1 rfl) ?_
    obtain ⟨hi_4, hF⟩ := gd_in_s hF
    refine va_iald hx hb hK hP 6 0 rfl rfl hi_4 dX9_cornerOf_16 ?_
    refine lv_iconst (v := 1) hx hb dX9_cornerOf_17 (by decide) ?_
    refine lv_isub hx hb dX9_cornerOf_18 ?_
    refine lv_i2l hx hb dX9_cornerOf_19 rfl ?_
    obtain ⟨v_5, hv_5, hF⟩ := bd_s hF
    refine ro_ze (va_runS (As := [.long p2.toInt64, .long 0, .long (((CO p1.toNatClampNeg) - 1).toInt64)]) (rest := []) ⟨hx, hb, hml, hown, hts⟩ (kX9_in l G p2.toInt64 0 (((CO p1.toNatClampNeg) - 1).toInt64) v_5 hv_5) (va_cwS 3 hts gX9_cornerOf_X9_in rfl rfl rfl (by decide +kernel) ⟨Nat.le_of_ble_eq_true rfl, Nat.le_of_ble_eq_true rfl⟩) (psR hK (hP.sub (ws' := ([] : va_W)) [] rfl)) rfl rfl hl.1 rfl (lv_room (Nat.le_of_ble_eq_true rfl)) dX9_cornerOf_20 ⟨Nat.le_of_ble_eq_true rfl, Nat.le_of_ble_eq_true rfl⟩) (fun hb_6 => ?_)
    refine lv_if_eq (tgt := 56) hx hb dX9_cornerOf_23 (by decide) (fun c_7 => ?_) (fun c_7 => ?_)
    · replace hF := it_p c_7 hF
      refine lv_sipush (v := 1000) hx hb dX9_cornerOf_56 (by decide) ?_
      exact W.iret (v := 1000) hx hb hr  (fun t ht hW => ⟨1000, rfl, (so_e hF), ht⟩) (fun q h => absurd h List.not_mem_nil) dX9_cornerOf_59
    · replace hF := it_n c_7 hF
      refine lv_iload_n hx hb dX9_cornerOf_26 rfl (lv_at hl 3 rfl) ?_
      refine lv_i2l hx hb dX9_cornerOf_27 rfl ?_
      refine lv_lconst (v := 0) hx hb dX9_cornerOf_28 (by decide) ?_
      refine lv_ldc2 (v := 2) hx hb hown hcn166 dX9_cornerOf_29 ?_
      obtain ⟨v_8, hv_8, hF⟩ := bd_s hF
      refine ro_ze (va_runS (As := [.long p3.toInt64, .long 0, .long 2]) (rest := []) ⟨hx, hb, hml, hown, hts⟩ (kX9_in l G p3.toInt64 0 2 v_8 hv_8) (va_cwS 3 hts gX9_cornerOf_X9_in rfl rfl rfl (by decide +kernel) ⟨Nat.le_of_ble_eq_true rfl, Nat.le_of_ble_eq_true rfl⟩) (psR hK (hP.sub (ws' := ([] : va_W)) [] rfl)) rfl rfl hl.1 rfl (lv_room (Nat.le_of_ble_eq_true rfl)) dX9_cornerOf_32 ⟨Nat.le_of_ble_eq_true rfl, Nat.le_of_ble_eq_true rfl⟩) (fun hb_9 => ?_)
      refine lv_if_eq (tgt := 56) hx hb dX9_cornerOf_35 (by decide) (fun c_10 => ?_) (fun c_10 => ?_)
      · replace hF := it_p c_10 hF
        refine lv_sipush (v := 1000) hx hb dX9_cornerOf_56 (by decide) ?_
        exact W.iret (v := 1000) hx hb hr  (fun t ht hW => ⟨1000, rfl, (so_e hF), ht⟩) (fun q h => absurd h List.not_mem_nil) dX9_cornerOf_59
      · replace hF := it_n c_10 hF
        refine lv_aload_n hx hb dX9_cornerOf_38 rfl (lv_at hl 0 rfl) ?_
        refine va_get (ci := 9) (v := .ref qCR) (C := RX9) (T := TX9) (N := 24) hx hb hts hin9 hown hK hP 0 rfl rfl 8 (by decide) hfl29 (fun _ h9 => h9) rfl dX9_cornerOf_39 ?_
        refine lv_bipush (v := 120) hx hb dX9_cornerOf_42 (by decide) ?_
        refine lv_iload_n hx hb dX9_cornerOf_44 rfl (lv_at hl 1 rfl) ?_
        refine lv_imul hx hb dX9_cornerOf_45 ?_
        refine lv_iconst (v := 3) hx hb dX9_cornerOf_46 (by decide) ?_
        refine lv_iload_n hx hb dX9_cornerOf_47 rfl (lv_at hl 2 rfl) ?_
        refine lv_imul hx hb dX9_cornerOf_48 ?_
        refine lv_iadd hx hb dX9_cornerOf_49 ?_
        refine lv_iload_n hx hb dX9_cornerOf_50 rfl (lv_at hl 3 rfl) ?_
        refine lv_iadd hx hb dX9_cornerOf_51 ?_
        obtain ⟨hi_11, hF⟩ := gd_in_s hF
        refine va_iald hx hb hK hP 7 0 rfl rfl hi_11 dX9_cornerOf_52 ?_
        refine lv_goto (tgt := 59) hx hb dX9_cornerOf_53 (by decide) ?_
        exact W.iret (v := CR (((120 * p1) + (3 * p2)) + p3).toNatClampNeg) hx hb hr  (fun t ht hW => ⟨CR (((120 * p1) + (3 * p2)) + p3).toNatClampNeg, rfl, (so_e hF), ht⟩) (fun q h => absurd h List.not_mem_nil) dX9_cornerOf_59
def fX9_side_ (bo : Int32) (FI : Nat → Int32) (SI : Nat → Int32) (SR : Nat → Int32) (BO : Nat → Int32) (p1 : Int32) (p2 : Int32) (p3 : Int32) : Option (Int32) :=
  (bd (fX9_is bo p1) (fun v_1 => (if v_1 = 0 then (some 1000) else (bd (fX9_in p3.toInt64 0 3) (fun v_4 => (if v_4 = 0 then (some 1000) else (if p2 = (-4) then (gd_in p1 8 (if FI p1.toNatClampNeg = 2 then (gd_in ((4 * p1) + p3) 32 (some (BO ((4 * p1) + p3).toNatClampNeg))) else (some 1000))) else (gd_in p1 8 (bd (fX9_in p2.toInt64 0 (((SI p1.toNatClampNeg) - 1).toInt64)) (fun v_9 => (if v_9 = 0 then (some 1000) else (gd_in (((360 * p1) + (4 * p2)) + p3) 2880 (some (SR (((360 * p1) + (4 * p2)) + p3).toNatClampNeg))))))))))))))
abbrev rX9_side_ : Room := { frames := 2, cells := 0, slots := 0, locals := 46 }
set_option maxHeartbeats 40000000 in
set_option maxRecDepth 100000 in
theorem kX9_side_ (l : Launch) (G : GT) (h0 qDR qLA qLE qCE qFI qCO qCR qSI qSR qMO qBO qPX qPY qPZ qSX : Nat) (dr : Int32) (bo : Int32) (po : Int32) (sx : Int32) (sy : Int32) (sw : Int32) (tx : Int32) (ty : Int32) (tz : Int32) (DR : Nat → Int32) (LA : Nat → Int32) (LE : Nat → Int32) (CE : Nat → Int64) (FI : Nat → Int32) (CO : Nat → Int32) (CR : Nat → Int32) (SI : Nat → Int32) (SR : Nat → Int32) (MO : Nat → Int32) (BO : Nat → Int32) (PX : Nat → Int32) (PY : Nat → Int32) (PZ : Nat → Int32) (SX : Nat → Int32) (p1 : Int32) (p2 : Int32) (p3 : Int32) (res : Int32) (hF : fX9_side_ bo FI SI SR BO p1 p2 p3 = some res) : Met l yX9_side_ wsX9_side_ rX9_side_ (va_Pc [.ref h0, .int p1, .int p2, .int p3] (pR G (wMod G h0 qDR qLA qLE qCE qFI qCO qCR qSI qSR qMO qBO qPX qPY qPZ qSX dr bo po sx sy sw tx ty tz DR LA LE CE FI CO CR SI SR MO BO PX PY PZ SX))) (vp_Si (fun r => r = res)) 0 0 (fun _ => False) := by
  refine Met.ofW (cc := cX9_side_) (maxL := 4) (ret := (some .int)) (by decide) rfl ?_
  intro p e s m args below meth c s₁ B hml hv
  obtain ⟨rfl, hP, hK⟩ := hv
  have hx := B.exec
  have hb := B.bytes
  have hr := B.returns
  have hts := atoms_spec (ws := wsX9_side_) B.pre
  have hown : s.vm.findClass RX9 = some m.cls := findClass_of_methodNamed B.named
  have hlocks := B.notSynchronized
  have hcn72 := hts (.constantLong RX9 72 (3)) (by decide +kernel)
  have hin9 : ∀ w ∈ u_ws RX9 TX9 24, w ∈ wsX9_side_ := by decide +kernel
  have hfl32 := hts (.fieldLink RX9 32 "SwellBodiesModel" "sides" "[I") (by decide +kernel)
  have hfl35 := hts (.fieldLink RX9 35 "SwellBodiesModel" "sideRow" "[I") (by decide +kernel)
  have hfl23 := hts (.fieldLink RX9 23 "SwellBodiesModel" "fills" "[I") (by decide +kernel)
  have hfl41 := hts (.fieldLink RX9 41 "SwellBodiesModel" "bond" "[I") (by decide +kernel)
  have hl := lv_entry ([.ref h0, .int p1, .int p2, .int p3]) (n := 4) (Nat.le_of_ble_eq_true rfl)
  rw [lg_entry_eq]
  generalize (lg_sl ([.ref h0, .int p1, .int p2, .int p3]) ++ List.replicate (4 - (lg_sl ([.ref h0, .int p1, .int p2, .int p3])).length) Slot.unset).toArray = ls at hl ⊢
  have hl : lv_has ls 4 [(0, .ref h0), (1, .int p1), (2, .int p2), (3, .int p3)] := hl
  unfold fX9_side_ at hF
  refine lv_aload_n hx hb dX9_side__0 rfl (lv_at hl 0 rfl) ?_
  refine lv_iload_n hx hb dX9_side__1 rfl (lv_at hl 1 rfl) ?_
  obtain ⟨v_1, hv_1, hF⟩ := bd_s hF
  refine ro_ze (va_runV (As := [.int p1]) (rest := []) ⟨hx, hb, hml, hown, hts⟩ (kX9_is l G h0 qDR qLA qLE qCE qFI qCO qCR qSI qSR qMO qBO qPX qPY qPZ qSX dr bo po sx sy sw tx ty tz DR LA LE CE FI CO CR SI SR MO BO PX PY PZ SX p1 v_1 hv_1) (cwV 1 hts gX9_side__X9_is rfl rfl rfl (by decide +kernel) ⟨Nat.le_of_ble_eq_true rfl, Nat.le_of_ble_eq_true rfl⟩) (pvR (q0 := 0) 9 hK (hP.sub (ws' := (wMod G h0 qDR qLA qLE qCE qFI qCO qCR qSI qSR qMO qBO qPX qPY qPZ qSX dr bo po sx sy sw tx ty tz DR LA LE CE FI CO CR SI SR MO BO PX PY PZ SX)) [0, 1, 2, 3, 4, 5, 6, 7, 8, 9, 10, 11, 12, 13, 14, 15] rfl) rfl rfl) rfl rfl hl.1 rfl (lv_room (Nat.le_of_ble_eq_true rfl)) dX9_side__2 ⟨Nat.le_of_ble_eq_true rfl, Nat.le_of_ble_eq_true rfl⟩) (fun hb_2 => ?_)
  refine lv_if_eq (tgt := 20) hx hb dX9_side__5 (by decide) (fun c_3 => ?_) (fun c_3 => ?_)
  · replace hF := it_p c_3 hF
    refine lv_sipush (v := 1000) hx hb dX9_side__20 (by decide) ?_
    exact W.iret (v := 1000) hx hb hr  (fun t ht hW => ⟨1000, rfl, (so_e hF), ht⟩) (fun q h => absurd h List.not_mem_nil) dX9_side__23
  · replace hF := it_n c_3 hF
    refine lv_iload_n hx hb dX9_side__8 rfl (lv_at hl 3 rfl) ?_
    refine lv_i2l hx hb dX9_side__9 rfl ?_
    refine lv_lconst (v := 0) hx hb dX9_side__10 (by decide) ?_
    refine lv_ldc2 (v := 3) hx hb hown hcn72 dX9_side__11 ?_
    obtain ⟨v_4, hv_4, hF⟩ := bd_s hF
    refine ro_ze (va_runS (As := [.long p3.toInt64, .long 0, .long 3]) (rest := []) ⟨hx, hb, hml, hown, hts⟩ (kX9_in l G p3.toInt64 0 3 v_4 hv_4) (va_cwS 3 hts gX9_side__X9_in rfl rfl rfl (by decide +kernel) ⟨Nat.le_of_ble_eq_true rfl, Nat.le_of_ble_eq_true rfl⟩) (psR hK (hP.sub (ws' := ([] : va_W)) [] rfl)) rfl rfl hl.1 rfl (lv_room (Nat.le_of_ble_eq_true rfl)) dX9_side__14 ⟨Nat.le_of_ble_eq_true rfl, Nat.le_of_ble_eq_true rfl⟩) (fun hb_5 => ?_)
    refine lv_if_ne (tgt := 24) hx hb dX9_side__17 (by decide) (fun c_6 => ?_) (fun c_6 => ?_)
    · replace hF := it_n c_6 hF
      refine lv_iload_n hx hb dX9_side__24 rfl (lv_at hl 2 rfl) ?_
      refine lv_bipush (v := (-4)) hx hb dX9_side__25 (by decide) ?_
      refine lv_icmp_ne (tgt := 57) hx hb dX9_side__27 (by decide) (fun c_7 => ?_) (fun c_7 => ?_)
      · replace hF := it_n c_7 hF
        refine lv_iload_n hx hb dX9_side__57 rfl (lv_at hl 2 rfl) ?_
        refine lv_i2l hx hb dX9_side__58 rfl ?_
        refine lv_lconst (v := 0) hx hb dX9_side__59 (by decide) ?_
        refine lv_aload_n hx hb dX9_side__60 rfl (lv_at hl 0 rfl) ?_
        refine va_get (ci := 9) (v := .ref qSI) (C := RX9) (T := TX9) (N := 24) hx hb hts hin9 hown hK hP 0 rfl rfl 9 (by decide) hfl32 (fun _ h9 => h9) rfl dX9_side__61 ?_
        refine lv_iload_n hx hb dX9_side__64 rfl (lv_at hl 1 rfl) ?_
        obtain ⟨hi_8, hF⟩ := gd_in_s hF
        refine va_iald hx hb hK hP 8 0 rfl rfl hi_8 dX9_side__65 ?_
        refine lv_iconst (v := 1) hx hb dX9_side__66 (by decide) ?_
        refine lv_isub hx hb dX9_side__67 ?_
        refine lv_i2l hx hb dX9_side__68 rfl ?_
        obtain ⟨v_9, hv_9, hF⟩ := bd_s hF
        refine ro_ze (va_runS (As := [.long p2.toInt64, .long 0, .long (((SI p1.toNatClampNeg) - 1).toInt64)]) (rest := []) ⟨hx, hb, hml, hown, hts⟩ (kX9_in l G p2.toInt64 0 (((SI p1.toNatClampNeg) - 1).toInt64) v_9 hv_9) (va_cwS 3 hts gX9_side__X9_in rfl rfl rfl (by decide +kernel) ⟨Nat.le_of_ble_eq_true rfl, Nat.le_of_ble_eq_true rfl⟩) (psR hK (hP.sub (ws' := ([] : va_W)) [] rfl)) rfl rfl hl.1 rfl (lv_room (Nat.le_of_ble_eq_true rfl)) dX9_side__69 ⟨Nat.le_of_ble_eq_true rfl, Nat.le_of_ble_eq_true rfl⟩) (fun hb_10 => ?_)
        refine lv_if_eq (tgt := 94) hx hb dX9_side__72 (by decide) (fun c_11 => ?_) (fun c_11 => ?_)
        · replace hF := it_p c_11 hF
          refine lv_sipush (v := 1000) hx hb dX9_side__94 (by decide) ?_
          exact W.iret (v := 1000) hx hb hr  (fun t ht hW => ⟨1000, rfl, (so_e hF), ht⟩) (fun q h => absurd h List.not_mem_nil) dX9_side__97
        · replace hF := it_n c_11 hF
          refine lv_aload_n hx hb dX9_side__75 rfl (lv_at hl 0 rfl) ?_
          refine va_get (ci := 9) (v := .ref qSR) (C := RX9) (T := TX9) (N := 24) hx hb hts hin9 hown hK hP 0 rfl rfl 10 (by decide) hfl35 (fun _ h9 => h9) rfl dX9_side__76 ?_
          refine lv_sipush (v := 360) hx hb dX9_side__79 (by decide) ?_
          refine lv_iload_n hx hb dX9_side__82 rfl (lv_at hl 1 rfl) ?_
          refine lv_imul hx hb dX9_side__83 ?_
          refine lv_iconst (v := 4) hx hb dX9_side__84 (by decide) ?_
          refine lv_iload_n hx hb dX9_side__85 rfl (lv_at hl 2 rfl) ?_
          refine lv_imul hx hb dX9_side__86 ?_
          refine lv_iadd hx hb dX9_side__87 ?_
          refine lv_iload_n hx hb dX9_side__88 rfl (lv_at hl 3 rfl) ?_
          refine lv_iadd hx hb dX9_side__89 ?_
          obtain ⟨hi_12, hF⟩ := gd_in_s hF
          refine va_iald hx hb hK hP 9 0 rfl rfl hi_12 dX9_side__90 ?_
          refine lv_goto (tgt := 97) hx hb dX9_side__91 (by decide) ?_
          exact W.iret (v := SR (((360 * p1) + (4 * p2)) + p3).toNatClampNeg) hx hb hr  (fun t ht hW => ⟨SR (((360 * p1) + (4 * p2)) + p3).toNatClampNeg, rfl, (so_e hF), ht⟩) (fun q h => absurd h List.not_mem_nil) dX9_side__97
      · replace hF := it_p c_7 hF
        refine lv_aload_n hx hb dX9_side__30 rfl (lv_at hl 0 rfl) ?_
        refine va_get (ci := 9) (v := .ref qFI) (C := RX9) (T := TX9) (N := 24) hx hb hts hin9 hown hK hP 0 rfl rfl 6 (by decide) hfl23 (fun _ h9 => h9) rfl dX9_side__31 ?_
        refine lv_iload_n hx hb dX9_side__34 rfl (lv_at hl 1 rfl) ?_
        obtain ⟨hi_13, hF⟩ := gd_in_s hF
        refine va_iald hx hb hK hP 5 0 rfl rfl hi_13 dX9_side__35 ?_
        refine lv_iconst (v := 2) hx hb dX9_side__36 (by decide) ?_
        refine lv_icmp_ne (tgt := 53) hx hb dX9_side__37 (by decide) (fun c_14 => ?_) (fun c_14 => ?_)
        · replace hF := it_n c_14 hF
          refine lv_sipush (v := 1000) hx hb dX9_side__53 (by decide) ?_
          exact W.iret (v := 1000) hx hb hr  (fun t ht hW => ⟨1000, rfl, (so_e hF), ht⟩) (fun q h => absurd h List.not_mem_nil) dX9_side__56
        · replace hF := it_p c_14 hF
          refine lv_aload_n hx hb dX9_side__40 rfl (lv_at hl 0 rfl) ?_
          refine va_get (ci := 9) (v := .ref qBO) (C := RX9) (T := TX9) (N := 24) hx hb hts hin9 hown hK hP 0 rfl rfl 12 (by decide) hfl41 (fun _ h9 => h9) rfl dX9_side__41 ?_
          refine lv_iconst (v := 4) hx hb dX9_side__44 (by decide) ?_
          refine lv_iload_n hx hb dX9_side__45 rfl (lv_at hl 1 rfl) ?_
          refine lv_imul hx hb dX9_side__46 ?_
          refine lv_iload_n hx hb dX9_side__47 rfl (lv_at hl 3 rfl) ?_
          refine lv_iadd hx hb dX9_side__48 ?_
          obtain ⟨hi_15, hF⟩ := gd_in_s hF
          refine va_iald hx hb hK hP 11 0 rfl rfl hi_15 dX9_side__49 ?_
          refine lv_goto (tgt := 56) hx hb dX9_side__50 (by decide) ?_
          exact W.iret (v := BO ((4 * p1) + p3).toNatClampNeg) hx hb hr  (fun t ht hW => ⟨BO ((4 * p1) + p3).toNatClampNeg, rfl, (so_e hF), ht⟩) (fun q h => absurd h List.not_mem_nil) dX9_side__56
    · replace hF := it_p c_6 hF
      refine lv_sipush (v := 1000) hx hb dX9_side__20 (by decide) ?_
      exact W.iret (v := 1000) hx hb hr  (fun t ht hW => ⟨1000, rfl, (so_e hF), ht⟩) (fun q h => absurd h List.not_mem_nil) dX9_side__23
def JX9_on_95 (bo : Int32) (CO : Nat → Int32) (CR : Nat → Int32) (SI : Nat → Int32) (SR : Nat → Int32) (k33 : Int32 → Int32 → Int32 → Int32 → Option (Int32)) (a1 : Int32) (a2 : Int32) (a4 : Int32) (t0 : Int32) (t1 : Int32) : Option (Int32) :=
  (k33 a1 a2 (t1 + t0) (a4 + 1))
def LX9_on_33 (bo : Int32) (CO : Nat → Int32) (CR : Nat → Int32) (SI : Nat → Int32) (SR : Nat → Int32)  : Nat → Int32 → Int32 → Int32 → Int32 → Option (Int32)
  | 0, _, _, _, _ => none
  | k + 1, a1, a2, a3, a4 =>
  (gd_in a1 8 (if CO a1.toNatClampNeg ≤ a4 then (some a3) else (gd_in ((120 * a1) + (3 * a4)) 960 (gd_in (((120 * a1) + (3 * a4)) + 1) 960 (gd_in (((120 * a1) + (3 * a4)) + 2) 960 (bd (fX9_isOn SR a1 a2 (CR ((120 * a1) + (3 * a4)).toNatClampNeg) (CR (((120 * a1) + (3 * a4)) + 1).toNatClampNeg) (CR (((120 * a1) + (3 * a4)) + 2).toNatClampNeg)) (fun v_13 => (if v_13 = 0 then (JX9_on_95 bo CO CR SI SR (LX9_on_33 bo CO CR SI SR k) a1 a2 a4 0 a3) else (JX9_on_95 bo CO CR SI SR (LX9_on_33 bo CO CR SI SR k) a1 a2 a4 1 a3)))))))))
def fX9_on (bo : Int32) (CO : Nat → Int32) (CR : Nat → Int32) (SI : Nat → Int32) (SR : Nat → Int32) (p1 : Int32) (p2 : Int32) : Option (Int32) :=
  (bd (fX9_is bo p1) (fun v_1 => (if v_1 = 0 then (some (-1)) else (gd_in p1 8 (bd (fX9_in p2.toInt64 0 (((SI p1.toNatClampNeg) - 1).toInt64)) (fun v_5 => (if v_5 = 0 then (some (-1)) else (LX9_on_33 bo CO CR SI SR FU p1 p2 0 0))))))))
abbrev rX9_on : Room := { frames := 2, cells := 0, slots := 0, locals := 46 }
set_option maxHeartbeats 40000000 in
set_option maxRecDepth 100000 in
theorem kX9_on (l : Launch) (G : GT) (h0 qDR qLA qLE qCE qFI qCO qCR qSI qSR qMO qBO qPX qPY qPZ qSX : Nat) (dr : Int32) (bo : Int32) (po : Int32) (sx : Int32) (sy : Int32) (sw : Int32) (tx : Int32) (ty : Int32) (tz : Int32) (DR : Nat → Int32) (LA : Nat → Int32) (LE : Nat → Int32) (CE : Nat → Int64) (FI : Nat → Int32) (CO : Nat → Int32) (CR : Nat → Int32) (SI : Nat → Int32) (SR : Nat → Int32) (MO : Nat → Int32) (BO : Nat → Int32) (PX : Nat → Int32) (PY : Nat → Int32) (PZ : Nat → Int32) (SX : Nat → Int32) (p1 : Int32) (p2 : Int32) (res : Int32) (hF : fX9_on bo CO CR SI SR p1 p2 = some res) : Met l yX9_on wsX9_on rX9_on (va_Pc [.ref h0, .int p1, .int p2] (pR G (wMod G h0 qDR qLA qLE qCE qFI qCO qCR qSI qSR qMO qBO qPX qPY qPZ qSX dr bo po sx sy sw tx ty tz DR LA LE CE FI CO CR SI SR MO BO PX PY PZ SX))) (vp_Si (fun r => r = res)) 0 0 (fun _ => False) := by
  refine Met.ofW (cc := cX9_on) (maxL := 6) (ret := (some .int)) (by decide) rfl ?_
  intro p e s m args below meth c s₁ B hml hv
  obtain ⟨rfl, hP, hK⟩ := hv
  have hx := B.exec
  have hb := B.bytes
  have hr := B.returns
  have hts := atoms_spec (ws := wsX9_on) B.pre
  have hown : s.vm.findClass RX9 = some m.cls := findClass_of_methodNamed B.named
  have hlocks := B.notSynchronized
  have hin9 : ∀ w ∈ u_ws RX9 TX9 24, w ∈ wsX9_on := by decide +kernel
  have hfl32 := hts (.fieldLink RX9 32 "SwellBodiesModel" "sides" "[I") (by decide +kernel)
  have hfl26 := hts (.fieldLink RX9 26 "SwellBodiesModel" "corners" "[I") (by decide +kernel)
  have hfl29 := hts (.fieldLink RX9 29 "SwellBodiesModel" "cornerRow" "[I") (by decide +kernel)
  have hl := lv_entry ([.ref h0, .int p1, .int p2]) (n := 6) (Nat.le_of_ble_eq_true rfl)
  rw [lg_entry_eq]
  generalize (lg_sl ([.ref h0, .int p1, .int p2]) ++ List.replicate (6 - (lg_sl ([.ref h0, .int p1, .int p2])).length) Slot.unset).toArray = ls at hl ⊢
  have hl : lv_has ls 6 [(0, .ref h0), (1, .int p1), (2, .int p2)] := hl
  have hJ95 : ∀ (k33 : Int32 → Int32 → Int32 → Int32 → Option (Int32)), (∀ (a1 : Int32) (a2 : Int32) (a3 : Int32) (a4 : Int32) (ls : Array Slot), k33 a1 a2 a3 a4 = some res → lv_has ls 6 [(0, .ref h0), (1, .int a1), (2, .int a2), (3, .int a3), (4, .int a4)] → W p l e (headSpec wsX9_on rX9_on).room s m ([.ref h0, .int p1, .int p2] : List Value).toArray below meth c s.heap [] 0 0 (MQ below (vp_Si (fun r => r = res)) ([.ref h0, .int p1, .int p2] : List Value).toArray s 0 0 (fun _ => False)) (F0 m 33 ls [])) → ∀ (a1 : Int32) (a2 : Int32) (a4 : Int32) (t0 : Int32) (t1 : Int32) (ls : Array Slot), JX9_on_95 bo CO CR SI SR k33 a1 a2 a4 t0 t1 = some res → lv_has ls 6 [(0, .ref h0), (1, .int a1), (2, .int a2), (4, .int a4)] → W p l e (headSpec wsX9_on rX9_on).room s m ([.ref h0, .int p1, .int p2] : List Value).toArray below meth c s.heap [] 0 0 (MQ below (vp_Si (fun r => r = res)) ([.ref h0, .int p1, .int p2] : List Value).toArray s 0 0 (fun _ => False)) (F0 m 95 ls [.int t0, .int t1]) := by
    intro k33 hk33
    intro a1 a2 a4 t0 t1 ls hF hl
    unfold JX9_on_95 at hF
    refine lv_iadd hx hb dX9_on_95 ?_
    refine lv_istore_n (lv' := [(3, .int (t1 + t0)), (0, .ref h0), (1, .int a1), (2, .int a2), (4, .int a4)]) hx hb dX9_on_96 rfl hl (by decide) rfl (fun ls hl => ?_)
    refine lv_iinc (v := a4 + 1) (lv' := [(4, .int (a4 + 1)), (3, .int (t1 + t0)), (0, .ref h0), (1, .int a1), (2, .int a2)]) hx hb dX9_on_97 hl (k := 4) rfl rfl (by decide) rfl (fun ls hl => ?_)
    refine lv_goto (tgt := 33) hx hb dX9_on_100 (by decide) ?_
    exact hk33 a1 a2 (t1 + t0) (a4 + 1) _ hF (lv_sub hl [2, 3, 4, 1, 0] rfl)
  have hL33 : ∀ (k : Nat), ∀ (a1 : Int32) (a2 : Int32) (a3 : Int32) (a4 : Int32) (ls : Array Slot), LX9_on_33 bo CO CR SI SR k a1 a2 a3 a4 = some res → lv_has ls 6 [(0, .ref h0), (1, .int a1), (2, .int a2), (3, .int a3), (4, .int a4)] → W p l e (headSpec wsX9_on rX9_on).room s m ([.ref h0, .int p1, .int p2] : List Value).toArray below meth c s.heap [] 0 0 (MQ below (vp_Si (fun r => r = res)) ([.ref h0, .int p1, .int p2] : List Value).toArray s 0 0 (fun _ => False)) (F0 m 33 ls []) := by
    intro k
    induction k with
    | zero =>
      intro a1 a2 a3 a4 ls hF hl
      rw [LX9_on_33] at hF
      cases hF
    | succ k ih =>
      intro a1 a2 a3 a4 ls hF hl
      rw [LX9_on_33] at hF
      refine lv_iload hx hb dX9_on_33 (lv_at hl 4 rfl) ?_
      refine lv_aload_n hx hb dX9_on_35 rfl (lv_at hl 0 rfl) ?_
      refine va_get (ci := 9) (v := .ref qCO) (C := RX9) (T := TX9) (N := 24) hx hb hts hin9 hown hK hP 0 rfl rfl 7 (by decide) hfl26 (fun _ h9 => h9) rfl dX9_on_36 ?_
      refine lv_iload_n hx hb dX9_on_39 rfl (lv_at hl 1 rfl) ?_
      obtain ⟨hi_8, hF⟩ := gd_in_s hF
      refine va_iald hx hb hK hP 6 0 rfl rfl hi_8 dX9_on_40 ?_
      refine lv_icmp_ge (tgt := 103) hx hb dX9_on_41 (by decide) (fun c_9 => ?_) (fun c_9 => ?_)
      · replace hF := it_p c_9 hF
        refine lv_iload_n hx hb dX9_on_103 rfl (lv_at hl 3 rfl) ?_
        exact W.iret (v := a3) hx hb hr  (fun t ht hW => ⟨a3, rfl, (so_e hF), ht⟩) (fun q h => absurd h List.not_mem_nil) dX9_on_104
      · replace hF := it_n c_9 hF
        refine lv_bipush (v := 120) hx hb dX9_on_44 (by decide) ?_
        refine lv_iload_n hx hb dX9_on_46 rfl (lv_at hl 1 rfl) ?_
        refine lv_imul hx hb dX9_on_47 ?_
        refine lv_iconst (v := 3) hx hb dX9_on_48 (by decide) ?_
        refine lv_iload hx hb dX9_on_49 (lv_at hl 4 rfl) ?_
        refine lv_imul hx hb dX9_on_51 ?_
        refine lv_iadd hx hb dX9_on_52 ?_
        refine lv_istore (lv' := [(5, .int ((120 * a1) + (3 * a4))), (0, .ref h0), (1, .int a1), (2, .int a2), (3, .int a3), (4, .int a4)]) hx hb dX9_on_53 hl (by decide) rfl (fun ls hl => ?_)
        refine lv_iload_n hx hb dX9_on_55 rfl (lv_at hl 4 rfl) ?_
        refine lv_aload_n hx hb dX9_on_56 rfl (lv_at hl 1 rfl) ?_
        refine lv_iload_n hx hb dX9_on_57 rfl (lv_at hl 2 rfl) ?_
        refine lv_iload_n hx hb dX9_on_58 rfl (lv_at hl 3 rfl) ?_
        refine lv_aload_n hx hb dX9_on_59 rfl (lv_at hl 1 rfl) ?_
        refine va_get (ci := 9) (v := .ref qCR) (C := RX9) (T := TX9) (N := 24) hx hb hts hin9 hown hK hP 0 rfl rfl 8 (by decide) hfl29 (fun _ h9 => h9) rfl dX9_on_60 ?_
        refine lv_iload hx hb dX9_on_63 (lv_at hl 0 rfl) ?_
        obtain ⟨hi_10, hF⟩ := gd_in_s hF
        refine va_iald hx hb hK hP 7 0 rfl rfl hi_10 dX9_on_65 ?_
        refine lv_aload_n hx hb dX9_on_66 rfl (lv_at hl 1 rfl) ?_
        refine va_get (ci := 9) (v := .ref qCR) (C := RX9) (T := TX9) (N := 24) hx hb hts hin9 hown hK hP 0 rfl rfl 8 (by decide) hfl29 (fun _ h9 => h9) rfl dX9_on_67 ?_
        refine lv_iload hx hb dX9_on_70 (lv_at hl 0 rfl) ?_
        refine lv_iconst (v := 1) hx hb dX9_on_72 (by decide) ?_
        refine lv_iadd hx hb dX9_on_73 ?_
        obtain ⟨hi_11, hF⟩ := gd_in_s hF
        refine va_iald hx hb hK hP 7 0 rfl rfl hi_11 dX9_on_74 ?_
        refine lv_aload_n hx hb dX9_on_75 rfl (lv_at hl 1 rfl) ?_
        refine va_get (ci := 9) (v := .ref qCR) (C := RX9) (T := TX9) (N := 24) hx hb hts hin9 hown hK hP 0 rfl rfl 8 (by decide) hfl29 (fun _ h9 => h9) rfl dX9_on_76 ?_
        refine lv_iload hx hb dX9_on_79 (lv_at hl 0 rfl) ?_
        refine lv_iconst (v := 2) hx hb dX9_on_81 (by decide) ?_
        refine lv_iadd hx hb dX9_on_82 ?_
        obtain ⟨hi_12, hF⟩ := gd_in_s hF
        refine va_iald hx hb hK hP 7 0 rfl rfl hi_12 dX9_on_83 ?_
        obtain ⟨v_13, hv_13, hF⟩ := bd_s hF
        refine ro_ze (va_runV (As := [.int a1, .int a2, .int (CR ((120 * a1) + (3 * a4)).toNatClampNeg), .int (CR (((120 * a1) + (3 * a4)) + 1).toNatClampNeg), .int (CR (((120 * a1) + (3 * a4)) + 2).toNatClampNeg)]) (rest := [.int a3]) ⟨hx, hb, hml, hown, hts⟩ (kX9_isOn l G h0 qDR qLA qLE qCE qFI qCO qCR qSI qSR qMO qBO qPX qPY qPZ qSX dr bo po sx sy sw tx ty tz DR LA LE CE FI CO CR SI SR MO BO PX PY PZ SX a1 a2 (CR ((120 * a1) + (3 * a4)).toNatClampNeg) (CR (((120 * a1) + (3 * a4)) + 1).toNatClampNeg) (CR (((120 * a1) + (3 * a4)) + 2).toNatClampNeg) v_13 hv_13) (cwV 5 hts gX9_on_X9_isOn rfl rfl rfl (by decide +kernel) ⟨Nat.le_of_ble_eq_true rfl, Nat.le_of_ble_eq_true rfl⟩) (pvR (q0 := 0) 9 hK (hP.sub (ws' := (wMod G h0 qDR qLA qLE qCE qFI qCO qCR qSI qSR qMO qBO qPX qPY qPZ qSX dr bo po sx sy sw tx ty tz DR LA LE CE FI CO CR SI SR MO BO PX PY PZ SX)) [0, 1, 2, 3, 4, 5, 6, 7, 8, 9, 10, 11, 12, 13, 14, 15] rfl) rfl rfl) rfl rfl hl.1 rfl (lv_room (Nat.le_of_ble_eq_true rfl)) dX9_on_84 ⟨Nat.le_of_ble_eq_true rfl, Nat.le_of_ble_eq_true rfl⟩) (fun hb_14 => ?_)
        refine lv_if_eq (tgt := 94) hx hb dX9_on_87 (by decide) (fun c_15 => ?_) (fun c_15 => ?_)
        · replace hF := it_p c_15 hF
          refine lv_iconst (v := 0) hx hb dX9_on_94 (by decide) ?_
          exact hJ95 _ ih a1 a2 a4 0 a3 _ hF (lv_sub hl [1, 2, 3, 5] rfl)
        · replace hF := it_n c_15 hF
          refine lv_iconst (v := 1) hx hb dX9_on_90 (by decide) ?_
          refine lv_goto (tgt := 95) hx hb dX9_on_91 (by decide) ?_
          exact hJ95 _ ih a1 a2 a4 1 a3 _ hF (lv_sub hl [1, 2, 3, 5] rfl)
  unfold fX9_on at hF
  refine lv_aload_n hx hb dX9_on_0 rfl (lv_at hl 0 rfl) ?_
  refine lv_iload_n hx hb dX9_on_1 rfl (lv_at hl 1 rfl) ?_
  obtain ⟨v_1, hv_1, hF⟩ := bd_s hF
  refine ro_ze (va_runV (As := [.int p1]) (rest := []) ⟨hx, hb, hml, hown, hts⟩ (kX9_is l G h0 qDR qLA qLE qCE qFI qCO qCR qSI qSR qMO qBO qPX qPY qPZ qSX dr bo po sx sy sw tx ty tz DR LA LE CE FI CO CR SI SR MO BO PX PY PZ SX p1 v_1 hv_1) (cwV 1 hts gX9_on_X9_is rfl rfl rfl (by decide +kernel) ⟨Nat.le_of_ble_eq_true rfl, Nat.le_of_ble_eq_true rfl⟩) (pvR (q0 := 0) 9 hK (hP.sub (ws' := (wMod G h0 qDR qLA qLE qCE qFI qCO qCR qSI qSR qMO qBO qPX qPY qPZ qSX dr bo po sx sy sw tx ty tz DR LA LE CE FI CO CR SI SR MO BO PX PY PZ SX)) [0, 1, 2, 3, 4, 5, 6, 7, 8, 9, 10, 11, 12, 13, 14, 15] rfl) rfl rfl) rfl rfl hl.1 rfl (lv_room (Nat.le_of_ble_eq_true rfl)) dX9_on_2 ⟨Nat.le_of_ble_eq_true rfl, Nat.le_of_ble_eq_true rfl⟩) (fun hb_2 => ?_)
  refine lv_if_eq (tgt := 26) hx hb dX9_on_5 (by decide) (fun c_3 => ?_) (fun c_3 => ?_)
  · replace hF := it_p c_3 hF
    refine lv_iconst (v := (-1)) hx hb dX9_on_26 (by decide) ?_
    exact W.iret (v := (-1)) hx hb hr  (fun t ht hW => ⟨(-1), rfl, (so_e hF), ht⟩) (fun q h => absurd h List.not_mem_nil) dX9_on_27
  · replace hF := it_n c_3 hF
    refine lv_iload_n hx hb dX9_on_8 rfl (lv_at hl 2 rfl) ?_
    refine lv_i2l hx hb dX9_on_9 rfl ?_
    refine lv_lconst (v := 0) hx hb dX9_on_10 (by decide) ?_
    refine lv_aload_n hx hb dX9_on_11 rfl (lv_at hl 0 rfl) ?_
    refine va_get (ci := 9) (v := .ref qSI) (C := RX9) (T := TX9) (N := 24) hx hb hts hin9 hown hK hP 0 rfl rfl 9 (by decide) hfl32 (fun _ h9 => h9) rfl dX9_on_12 ?_
    refine lv_iload_n hx hb dX9_on_15 rfl (lv_at hl 1 rfl) ?_
    obtain ⟨hi_4, hF⟩ := gd_in_s hF
    refine va_iald hx hb hK hP 8 0 rfl rfl hi_4 dX9_on_16 ?_
    refine lv_iconst (v := 1) hx hb dX9_on_17 (by decide) ?_
    refine lv_isub hx hb dX9_on_18 ?_
    refine lv_i2l hx hb dX9_on_19 rfl ?_
    obtain ⟨v_5, hv_5, hF⟩ := bd_s hF
    refine ro_ze (va_runS (As := [.long p2.toInt64, .long 0, .long (((SI p1.toNatClampNeg) - 1).toInt64)]) (rest := []) ⟨hx, hb, hml, hown, hts⟩ (kX9_in l G p2.toInt64 0 (((SI p1.toNatClampNeg) - 1).toInt64) v_5 hv_5) (va_cwS 3 hts gX9_on_X9_in rfl rfl rfl (by decide +kernel) ⟨Nat.le_of_ble_eq_true rfl, Nat.le_of_ble_eq_true rfl⟩) (psR hK (hP.sub (ws' := ([] : va_W)) [] rfl)) rfl rfl hl.1 rfl (lv_room (Nat.le_of_ble_eq_true rfl)) dX9_on_20 ⟨Nat.le_of_ble_eq_true rfl, Nat.le_of_ble_eq_true rfl⟩) (fun hb_6 => ?_)
    refine lv_if_ne (tgt := 28) hx hb dX9_on_23 (by decide) (fun c_7 => ?_) (fun c_7 => ?_)
    · replace hF := it_n c_7 hF
      refine lv_iconst (v := 0) hx hb dX9_on_28 (by decide) ?_
      refine lv_istore_n (lv' := [(3, .int 0), (0, .ref h0), (1, .int p1), (2, .int p2)]) hx hb dX9_on_29 rfl hl (by decide) rfl (fun ls hl => ?_)
      refine lv_iconst (v := 0) hx hb dX9_on_30 (by decide) ?_
      refine lv_istore (lv' := [(4, .int 0), (3, .int 0), (0, .ref h0), (1, .int p1), (2, .int p2)]) hx hb dX9_on_31 hl (by decide) rfl (fun ls hl => ?_)
      exact hL33 FU p1 p2 0 0 _ hF (lv_sub hl [2, 3, 4, 1, 0] rfl)
    · replace hF := it_p c_7 hF
      refine lv_iconst (v := (-1)) hx hb dX9_on_26 (by decide) ?_
      exact W.iret (v := (-1)) hx hb hr  (fun t ht hW => ⟨(-1), rfl, (so_e hF), ht⟩) (fun q h => absurd h List.not_mem_nil) dX9_on_27
def fX9_has (bo : Int32) (FI : Nat → Int32) (CR : Nat → Int32) (SI : Nat → Int32) (SR : Nat → Int32) (BO : Nat → Int32) (p1 : Int32) (p2 : Int32) (p3 : Int32) (p4 : Int32) (p5 : Int32) : Option (Int32) :=
  (bd (fX9_is bo p1) (fun v_1 => (if v_1 = 0 then (some (-1)) else (bd (fX9_in p5.toInt64 1 1000) (fun v_4 => (if v_4 = 0 then (some (-1)) else (bd (fX9_in p2.toInt64 (-100000) 100000) (fun v_7 => (if v_7 = 0 then (some (-1)) else (bd (fX9_in p3.toInt64 (-100000) 100000) (fun v_10 => (if v_10 = 0 then (some (-1)) else (bd (fX9_in p4.toInt64 (-100000) 100000) (fun v_13 => (if v_13 = 0 then (some (-1)) else (bd (fX9_where FI CR SI SR BO p1 p2.toInt64 p3.toInt64 p4.toInt64 p5.toInt64) (fun v_16 => (some v_16))))))))))))))))))
abbrev rX9_has : Room := { frames := 2, cells := 0, slots := 0, locals := 47 }
set_option maxHeartbeats 40000000 in
set_option maxRecDepth 100000 in
theorem kX9_has (l : Launch) (G : GT) (h0 qDR qLA qLE qCE qFI qCO qCR qSI qSR qMO qBO qPX qPY qPZ qSX : Nat) (dr : Int32) (bo : Int32) (po : Int32) (sx : Int32) (sy : Int32) (sw : Int32) (tx : Int32) (ty : Int32) (tz : Int32) (DR : Nat → Int32) (LA : Nat → Int32) (LE : Nat → Int32) (CE : Nat → Int64) (FI : Nat → Int32) (CO : Nat → Int32) (CR : Nat → Int32) (SI : Nat → Int32) (SR : Nat → Int32) (MO : Nat → Int32) (BO : Nat → Int32) (PX : Nat → Int32) (PY : Nat → Int32) (PZ : Nat → Int32) (SX : Nat → Int32) (p1 : Int32) (p2 : Int32) (p3 : Int32) (p4 : Int32) (p5 : Int32) (res : Int32) (hF : fX9_has bo FI CR SI SR BO p1 p2 p3 p4 p5 = some res) : Met l yX9_has wsX9_has rX9_has (va_Pc [.ref h0, .int p1, .int p2, .int p3, .int p4, .int p5] (pR G (wMod G h0 qDR qLA qLE qCE qFI qCO qCR qSI qSR qMO qBO qPX qPY qPZ qSX dr bo po sx sy sw tx ty tz DR LA LE CE FI CO CR SI SR MO BO PX PY PZ SX))) (vp_Si (fun r => r = res)) 0 0 (fun _ => False) := by
  refine Met.ofW (cc := cX9_has) (maxL := 6) (ret := (some .int)) (by decide) rfl ?_
  intro p e s m args below meth c s₁ B hml hv
  obtain ⟨rfl, hP, hK⟩ := hv
  have hx := B.exec
  have hb := B.bytes
  have hr := B.returns
  have hts := atoms_spec (ws := wsX9_has) B.pre
  have hown : s.vm.findClass RX9 = some m.cls := findClass_of_methodNamed B.named
  have hlocks := B.notSynchronized
  have hcn168 := hts (.constantLong RX9 168 (1000)) (by decide +kernel)
  have hcn170 := hts (.constantLong RX9 170 (-100000)) (by decide +kernel)
  have hcn172 := hts (.constantLong RX9 172 (100000)) (by decide +kernel)
  have hl := lv_entry ([.ref h0, .int p1, .int p2, .int p3, .int p4, .int p5]) (n := 6) (Nat.le_of_ble_eq_true rfl)
  rw [lg_entry_eq]
  generalize (lg_sl ([.ref h0, .int p1, .int p2, .int p3, .int p4, .int p5]) ++ List.replicate (6 - (lg_sl ([.ref h0, .int p1, .int p2, .int p3, .int p4, .int p5])).length) Slot.unset).toArray = ls at hl ⊢
  have hl : lv_has ls 6 [(0, .ref h0), (1, .int p1), (2, .int p2), (3, .int p3), (4, .int p4), (5, .int p5)] := hl
  unfold fX9_has at hF
  refine lv_aload_n hx hb dX9_has_0 rfl (lv_at hl 0 rfl) ?_
  refine lv_iload_n hx hb dX9_has_1 rfl (lv_at hl 1 rfl) ?_
  obtain ⟨v_1, hv_1, hF⟩ := bd_s hF
  refine ro_ze (va_runV (As := [.int p1]) (rest := []) ⟨hx, hb, hml, hown, hts⟩ (kX9_is l G h0 qDR qLA qLE qCE qFI qCO qCR qSI qSR qMO qBO qPX qPY qPZ qSX dr bo po sx sy sw tx ty tz DR LA LE CE FI CO CR SI SR MO BO PX PY PZ SX p1 v_1 hv_1) (cwV 1 hts gX9_has_X9_is rfl rfl rfl (by decide +kernel) ⟨Nat.le_of_ble_eq_true rfl, Nat.le_of_ble_eq_true rfl⟩) (pvR (q0 := 0) 9 hK (hP.sub (ws' := (wMod G h0 qDR qLA qLE qCE qFI qCO qCR qSI qSR qMO qBO qPX qPY qPZ qSX dr bo po sx sy sw tx ty tz DR LA LE CE FI CO CR SI SR MO BO PX PY PZ SX)) [0, 1, 2, 3, 4, 5, 6, 7, 8, 9, 10, 11, 12, 13, 14, 15] rfl) rfl rfl) rfl rfl hl.1 rfl (lv_room (Nat.le_of_ble_eq_true rfl)) dX9_has_2 ⟨Nat.le_of_ble_eq_true rfl, Nat.le_of_ble_eq_true rfl⟩) (fun hb_2 => ?_)
  refine lv_if_eq (tgt := 82) hx hb dX9_has_5 (by decide) (fun c_3 => ?_) (fun c_3 => ?_)
  · replace hF := it_p c_3 hF
    refine lv_iconst (v := (-1)) hx hb dX9_has_82 (by decide) ?_
    exact W.iret (v := (-1)) hx hb hr  (fun t ht hW => ⟨(-1), rfl, (so_e hF), ht⟩) (fun q h => absurd h List.not_mem_nil) dX9_has_83
  · replace hF := it_n c_3 hF
    refine lv_iload hx hb dX9_has_8 (lv_at hl 5 rfl) ?_
    refine lv_i2l hx hb dX9_has_10 rfl ?_
    refine lv_lconst (v := 1) hx hb dX9_has_11 (by decide) ?_
    refine lv_ldc2 (v := 1000) hx hb hown hcn168 dX9_has_12 ?_
    obtain ⟨v_4, hv_4, hF⟩ := bd_s hF
    refine ro_ze (va_runS (As := [.long p5.toInt64, .long 1, .long 1000]) (rest := []) ⟨hx, hb, hml, hown, hts⟩ (kX9_in l G p5.toInt64 1 1000 v_4 hv_4) (va_cwS 3 hts gX9_has_X9_in rfl rfl rfl (by decide +kernel) ⟨Nat.le_of_ble_eq_true rfl, Nat.le_of_ble_eq_true rfl⟩) (psR hK (hP.sub (ws' := ([] : va_W)) [] rfl)) rfl rfl hl.1 rfl (lv_room (Nat.le_of_ble_eq_true rfl)) dX9_has_15 ⟨Nat.le_of_ble_eq_true rfl, Nat.le_of_ble_eq_true rfl⟩) (fun hb_5 => ?_)
    refine lv_if_eq (tgt := 82) hx hb dX9_has_18 (by decide) (fun c_6 => ?_) (fun c_6 => ?_)
    · replace hF := it_p c_6 hF
      refine lv_iconst (v := (-1)) hx hb dX9_has_82 (by decide) ?_
      exact W.iret (v := (-1)) hx hb hr  (fun t ht hW => ⟨(-1), rfl, (so_e hF), ht⟩) (fun q h => absurd h List.not_mem_nil) dX9_has_83
    · replace hF := it_n c_6 hF
      refine lv_iload_n hx hb dX9_has_21 rfl (lv_at hl 2 rfl) ?_
      refine lv_i2l hx hb dX9_has_22 rfl ?_
      refine lv_ldc2 (v := (-100000)) hx hb hown hcn170 dX9_has_23 ?_
      refine lv_ldc2 (v := 100000) hx hb hown hcn172 dX9_has_26 ?_
      obtain ⟨v_7, hv_7, hF⟩ := bd_s hF
      refine ro_ze (va_runS (As := [.long p2.toInt64, .long (-100000), .long 100000]) (rest := []) ⟨hx, hb, hml, hown, hts⟩ (kX9_in l G p2.toInt64 (-100000) 100000 v_7 hv_7) (va_cwS 3 hts gX9_has_X9_in rfl rfl rfl (by decide +kernel) ⟨Nat.le_of_ble_eq_true rfl, Nat.le_of_ble_eq_true rfl⟩) (psR hK (hP.sub (ws' := ([] : va_W)) [] rfl)) rfl rfl hl.1 rfl (lv_room (Nat.le_of_ble_eq_true rfl)) dX9_has_29 ⟨Nat.le_of_ble_eq_true rfl, Nat.le_of_ble_eq_true rfl⟩) (fun hb_8 => ?_)
      refine lv_if_eq (tgt := 82) hx hb dX9_has_32 (by decide) (fun c_9 => ?_) (fun c_9 => ?_)
      · replace hF := it_p c_9 hF
        refine lv_iconst (v := (-1)) hx hb dX9_has_82 (by decide) ?_
        exact W.iret (v := (-1)) hx hb hr  (fun t ht hW => ⟨(-1), rfl, (so_e hF), ht⟩) (fun q h => absurd h List.not_mem_nil) dX9_has_83
      · replace hF := it_n c_9 hF
        refine lv_iload_n hx hb dX9_has_35 rfl (lv_at hl 3 rfl) ?_
        refine lv_i2l hx hb dX9_has_36 rfl ?_
        refine lv_ldc2 (v := (-100000)) hx hb hown hcn170 dX9_has_37 ?_
        refine lv_ldc2 (v := 100000) hx hb hown hcn172 dX9_has_40 ?_
        obtain ⟨v_10, hv_10, hF⟩ := bd_s hF
        refine ro_ze (va_runS (As := [.long p3.toInt64, .long (-100000), .long 100000]) (rest := []) ⟨hx, hb, hml, hown, hts⟩ (kX9_in l G p3.toInt64 (-100000) 100000 v_10 hv_10) (va_cwS 3 hts gX9_has_X9_in rfl rfl rfl (by decide +kernel) ⟨Nat.le_of_ble_eq_true rfl, Nat.le_of_ble_eq_true rfl⟩) (psR hK (hP.sub (ws' := ([] : va_W)) [] rfl)) rfl rfl hl.1 rfl (lv_room (Nat.le_of_ble_eq_true rfl)) dX9_has_43 ⟨Nat.le_of_ble_eq_true rfl, Nat.le_of_ble_eq_true rfl⟩) (fun hb_11 => ?_)
        refine lv_if_eq (tgt := 82) hx hb dX9_has_46 (by decide) (fun c_12 => ?_) (fun c_12 => ?_)
        · replace hF := it_p c_12 hF
          refine lv_iconst (v := (-1)) hx hb dX9_has_82 (by decide) ?_
          exact W.iret (v := (-1)) hx hb hr  (fun t ht hW => ⟨(-1), rfl, (so_e hF), ht⟩) (fun q h => absurd h List.not_mem_nil) dX9_has_83
        · replace hF := it_n c_12 hF
          refine lv_iload hx hb dX9_has_49 (lv_at hl 4 rfl) ?_
          refine lv_i2l hx hb dX9_has_51 rfl ?_
          refine lv_ldc2 (v := (-100000)) hx hb hown hcn170 dX9_has_52 ?_
          refine lv_ldc2 (v := 100000) hx hb hown hcn172 dX9_has_55 ?_
          obtain ⟨v_13, hv_13, hF⟩ := bd_s hF
          refine ro_ze (va_runS (As := [.long p4.toInt64, .long (-100000), .long 100000]) (rest := []) ⟨hx, hb, hml, hown, hts⟩ (kX9_in l G p4.toInt64 (-100000) 100000 v_13 hv_13) (va_cwS 3 hts gX9_has_X9_in rfl rfl rfl (by decide +kernel) ⟨Nat.le_of_ble_eq_true rfl, Nat.le_of_ble_eq_true rfl⟩) (psR hK (hP.sub (ws' := ([] : va_W)) [] rfl)) rfl rfl hl.1 rfl (lv_room (Nat.le_of_ble_eq_true rfl)) dX9_has_58 ⟨Nat.le_of_ble_eq_true rfl, Nat.le_of_ble_eq_true rfl⟩) (fun hb_14 => ?_)
          refine lv_if_eq (tgt := 82) hx hb dX9_has_61 (by decide) (fun c_15 => ?_) (fun c_15 => ?_)
          · replace hF := it_p c_15 hF
            refine lv_iconst (v := (-1)) hx hb dX9_has_82 (by decide) ?_
            exact W.iret (v := (-1)) hx hb hr  (fun t ht hW => ⟨(-1), rfl, (so_e hF), ht⟩) (fun q h => absurd h List.not_mem_nil) dX9_has_83
          · replace hF := it_n c_15 hF
            refine lv_aload_n hx hb dX9_has_64 rfl (lv_at hl 0 rfl) ?_
            refine lv_iload_n hx hb dX9_has_65 rfl (lv_at hl 1 rfl) ?_
            refine lv_iload_n hx hb dX9_has_66 rfl (lv_at hl 2 rfl) ?_
            refine lv_i2l hx hb dX9_has_67 rfl ?_
            refine lv_iload_n hx hb dX9_has_68 rfl (lv_at hl 3 rfl) ?_
            refine lv_i2l hx hb dX9_has_69 rfl ?_
            refine lv_iload hx hb dX9_has_70 (lv_at hl 4 rfl) ?_
            refine lv_i2l hx hb dX9_has_72 rfl ?_
            refine lv_iload hx hb dX9_has_73 (lv_at hl 5 rfl) ?_
            refine lv_i2l hx hb dX9_has_75 rfl ?_
            obtain ⟨v_16, hv_16, hF⟩ := bd_s hF
            refine ro_ie (va_runV (As := [.int p1, .long p2.toInt64, .long p3.toInt64, .long p4.toInt64, .long p5.toInt64]) (rest := []) ⟨hx, hb, hml, hown, hts⟩ (kX9_where l G h0 qDR qLA qLE qCE qFI qCO qCR qSI qSR qMO qBO qPX qPY qPZ qSX dr bo po sx sy sw tx ty tz DR LA LE CE FI CO CR SI SR MO BO PX PY PZ SX p1 p2.toInt64 p3.toInt64 p4.toInt64 p5.toInt64 v_16 hv_16) (cwV 5 hts gX9_has_X9_where rfl rfl rfl (by decide +kernel) ⟨Nat.le_of_ble_eq_true rfl, Nat.le_of_ble_eq_true rfl⟩) (pvR (q0 := 0) 9 hK (hP.sub (ws' := (wMod G h0 qDR qLA qLE qCE qFI qCO qCR qSI qSR qMO qBO qPX qPY qPZ qSX dr bo po sx sy sw tx ty tz DR LA LE CE FI CO CR SI SR MO BO PX PY PZ SX)) [0, 1, 2, 3, 4, 5, 6, 7, 8, 9, 10, 11, 12, 13, 14, 15] rfl) rfl rfl) rfl rfl hl.1 rfl (lv_room (Nat.le_of_ble_eq_true rfl)) dX9_has_76 ⟨Nat.le_of_ble_eq_true rfl, Nat.le_of_ble_eq_true rfl⟩) ?_
            refine lv_goto (tgt := 83) hx hb dX9_has_79 (by decide) ?_
            exact W.iret (v := v_16) hx hb hr  (fun t ht hW => ⟨v_16, rfl, (so_e hF), ht⟩) (fun q h => absurd h List.not_mem_nil) dX9_has_83
def fX9_count (bo : Int32) (FI : Nat → Int32) (CO : Nat → Int32) (CR : Nat → Int32) (SI : Nat → Int32) (SR : Nat → Int32) (BO : Nat → Int32) (p1 : Int32) (p2 : Int32) : Option (Int32) :=
  (bd (fX9_is bo p1) (fun v_1 => (if v_1 = 0 then (some (-1)) else (bd (fX9_in p2.toInt64 0 5) (fun v_4 => (if v_4 = 0 then (some (-1)) else (bd (fX9_countOf FI CO CR SI SR BO p1 p2) (fun v_7 => (some v_7)))))))))
abbrev rX9_count : Room := { frames := 3, cells := 0, slots := 0, locals := 101 }
set_option maxHeartbeats 40000000 in
set_option maxRecDepth 100000 in
theorem kX9_count (l : Launch) (G : GT) (h0 qDR qLA qLE qCE qFI qCO qCR qSI qSR qMO qBO qPX qPY qPZ qSX : Nat) (dr : Int32) (bo : Int32) (po : Int32) (sx : Int32) (sy : Int32) (sw : Int32) (tx : Int32) (ty : Int32) (tz : Int32) (DR : Nat → Int32) (LA : Nat → Int32) (LE : Nat → Int32) (CE : Nat → Int64) (FI : Nat → Int32) (CO : Nat → Int32) (CR : Nat → Int32) (SI : Nat → Int32) (SR : Nat → Int32) (MO : Nat → Int32) (BO : Nat → Int32) (PX : Nat → Int32) (PY : Nat → Int32) (PZ : Nat → Int32) (SX : Nat → Int32) (p1 : Int32) (p2 : Int32) (res : Int32) (hF : fX9_count bo FI CO CR SI SR BO p1 p2 = some res) : Met l yX9_count wsX9_count rX9_count (va_Pc [.ref h0, .int p1, .int p2] (pR G (wMod G h0 qDR qLA qLE qCE qFI qCO qCR qSI qSR qMO qBO qPX qPY qPZ qSX dr bo po sx sy sw tx ty tz DR LA LE CE FI CO CR SI SR MO BO PX PY PZ SX))) (vp_Si (fun r => r = res)) 0 0 (fun _ => False) := by
  refine Met.ofW (cc := cX9_count) (maxL := 3) (ret := (some .int)) (by decide) rfl ?_
  intro p e s m args below meth c s₁ B hml hv
  obtain ⟨rfl, hP, hK⟩ := hv
  have hx := B.exec
  have hb := B.bytes
  have hr := B.returns
  have hts := atoms_spec (ws := wsX9_count) B.pre
  have hown : s.vm.findClass RX9 = some m.cls := findClass_of_methodNamed B.named
  have hlocks := B.notSynchronized
  have hcn58 := hts (.constantLong RX9 58 (5)) (by decide +kernel)
  have hl := lv_entry ([.ref h0, .int p1, .int p2]) (n := 3) (Nat.le_of_ble_eq_true rfl)
  rw [lg_entry_eq]
  generalize (lg_sl ([.ref h0, .int p1, .int p2]) ++ List.replicate (3 - (lg_sl ([.ref h0, .int p1, .int p2])).length) Slot.unset).toArray = ls at hl ⊢
  have hl : lv_has ls 3 [(0, .ref h0), (1, .int p1), (2, .int p2)] := hl
  unfold fX9_count at hF
  refine lv_aload_n hx hb dX9_count_0 rfl (lv_at hl 0 rfl) ?_
  refine lv_iload_n hx hb dX9_count_1 rfl (lv_at hl 1 rfl) ?_
  obtain ⟨v_1, hv_1, hF⟩ := bd_s hF
  refine ro_ze (va_runV (As := [.int p1]) (rest := []) ⟨hx, hb, hml, hown, hts⟩ (kX9_is l G h0 qDR qLA qLE qCE qFI qCO qCR qSI qSR qMO qBO qPX qPY qPZ qSX dr bo po sx sy sw tx ty tz DR LA LE CE FI CO CR SI SR MO BO PX PY PZ SX p1 v_1 hv_1) (cwV 1 hts gX9_count_X9_is rfl rfl rfl (by decide +kernel) ⟨Nat.le_of_ble_eq_true rfl, Nat.le_of_ble_eq_true rfl⟩) (pvR (q0 := 0) 9 hK (hP.sub (ws' := (wMod G h0 qDR qLA qLE qCE qFI qCO qCR qSI qSR qMO qBO qPX qPY qPZ qSX dr bo po sx sy sw tx ty tz DR LA LE CE FI CO CR SI SR MO BO PX PY PZ SX)) [0, 1, 2, 3, 4, 5, 6, 7, 8, 9, 10, 11, 12, 13, 14, 15] rfl) rfl rfl) rfl rfl hl.1 rfl (lv_room (Nat.le_of_ble_eq_true rfl)) dX9_count_2 ⟨Nat.le_of_ble_eq_true rfl, Nat.le_of_ble_eq_true rfl⟩) (fun hb_2 => ?_)
  refine lv_if_eq (tgt := 29) hx hb dX9_count_5 (by decide) (fun c_3 => ?_) (fun c_3 => ?_)
  · replace hF := it_p c_3 hF
    refine lv_iconst (v := (-1)) hx hb dX9_count_29 (by decide) ?_
    exact W.iret (v := (-1)) hx hb hr  (fun t ht hW => ⟨(-1), rfl, (so_e hF), ht⟩) (fun q h => absurd h List.not_mem_nil) dX9_count_30
  · replace hF := it_n c_3 hF
    refine lv_iload_n hx hb dX9_count_8 rfl (lv_at hl 2 rfl) ?_
    refine lv_i2l hx hb dX9_count_9 rfl ?_
    refine lv_lconst (v := 0) hx hb dX9_count_10 (by decide) ?_
    refine lv_ldc2 (v := 5) hx hb hown hcn58 dX9_count_11 ?_
    obtain ⟨v_4, hv_4, hF⟩ := bd_s hF
    refine ro_ze (va_runS (As := [.long p2.toInt64, .long 0, .long 5]) (rest := []) ⟨hx, hb, hml, hown, hts⟩ (kX9_in l G p2.toInt64 0 5 v_4 hv_4) (va_cwS 3 hts gX9_count_X9_in rfl rfl rfl (by decide +kernel) ⟨Nat.le_of_ble_eq_true rfl, Nat.le_of_ble_eq_true rfl⟩) (psR hK (hP.sub (ws' := ([] : va_W)) [] rfl)) rfl rfl hl.1 rfl (lv_room (Nat.le_of_ble_eq_true rfl)) dX9_count_14 ⟨Nat.le_of_ble_eq_true rfl, Nat.le_of_ble_eq_true rfl⟩) (fun hb_5 => ?_)
    refine lv_if_eq (tgt := 29) hx hb dX9_count_17 (by decide) (fun c_6 => ?_) (fun c_6 => ?_)
    · replace hF := it_p c_6 hF
      refine lv_iconst (v := (-1)) hx hb dX9_count_29 (by decide) ?_
      exact W.iret (v := (-1)) hx hb hr  (fun t ht hW => ⟨(-1), rfl, (so_e hF), ht⟩) (fun q h => absurd h List.not_mem_nil) dX9_count_30
    · replace hF := it_n c_6 hF
      refine lv_aload_n hx hb dX9_count_20 rfl (lv_at hl 0 rfl) ?_
      refine lv_iload_n hx hb dX9_count_21 rfl (lv_at hl 1 rfl) ?_
      refine lv_iload_n hx hb dX9_count_22 rfl (lv_at hl 2 rfl) ?_
      obtain ⟨v_7, hv_7, hF⟩ := bd_s hF
      refine ro_ie (va_runV (As := [.int p1, .int p2]) (rest := []) ⟨hx, hb, hml, hown, hts⟩ (kX9_countOf l G h0 qDR qLA qLE qCE qFI qCO qCR qSI qSR qMO qBO qPX qPY qPZ qSX dr bo po sx sy sw tx ty tz DR LA LE CE FI CO CR SI SR MO BO PX PY PZ SX p1 p2 v_7 hv_7) (cwV 2 hts gX9_count_X9_countOf rfl rfl rfl (by decide +kernel) ⟨Nat.le_of_ble_eq_true rfl, Nat.le_of_ble_eq_true rfl⟩) (pvR (q0 := 0) 9 hK (hP.sub (ws' := (wMod G h0 qDR qLA qLE qCE qFI qCO qCR qSI qSR qMO qBO qPX qPY qPZ qSX dr bo po sx sy sw tx ty tz DR LA LE CE FI CO CR SI SR MO BO PX PY PZ SX)) [0, 1, 2, 3, 4, 5, 6, 7, 8, 9, 10, 11, 12, 13, 14, 15] rfl) rfl rfl) rfl rfl hl.1 rfl (lv_room (Nat.le_of_ble_eq_true rfl)) dX9_count_23 ⟨Nat.le_of_ble_eq_true rfl, Nat.le_of_ble_eq_true rfl⟩) ?_
      refine lv_goto (tgt := 30) hx hb dX9_count_26 (by decide) ?_
      exact W.iret (v := v_7) hx hb hr  (fun t ht hW => ⟨v_7, rfl, (so_e hF), ht⟩) (fun q h => absurd h List.not_mem_nil) dX9_count_30
def fX9_inner (bo : Int32) (FI : Nat → Int32) (CO : Nat → Int32) (CR : Nat → Int32) (SI : Nat → Int32) (SR : Nat → Int32) (BO : Nat → Int32) (p1 : Int32) (p2 : Int32) : Option (Int32) :=
  (bd (fX9_is bo p1) (fun v_1 => (if v_1 = 0 then (some (-1)) else (bd (fX9_in p2.toInt64 1 5) (fun v_4 => (if v_4 = 0 then (some (-1)) else (bd (fX9_counted FI CO CR SI SR BO p1 p2 2) (fun v_7 => (some v_7)))))))))
abbrev rX9_inner : Room := { frames := 2, cells := 0, slots := 0, locals := 79 }
set_option maxHeartbeats 40000000 in
set_option maxRecDepth 100000 in
theorem kX9_inner (l : Launch) (G : GT) (h0 qDR qLA qLE qCE qFI qCO qCR qSI qSR qMO qBO qPX qPY qPZ qSX : Nat) (dr : Int32) (bo : Int32) (po : Int32) (sx : Int32) (sy : Int32) (sw : Int32) (tx : Int32) (ty : Int32) (tz : Int32) (DR : Nat → Int32) (LA : Nat → Int32) (LE : Nat → Int32) (CE : Nat → Int64) (FI : Nat → Int32) (CO : Nat → Int32) (CR : Nat → Int32) (SI : Nat → Int32) (SR : Nat → Int32) (MO : Nat → Int32) (BO : Nat → Int32) (PX : Nat → Int32) (PY : Nat → Int32) (PZ : Nat → Int32) (SX : Nat → Int32) (p1 : Int32) (p2 : Int32) (res : Int32) (hF : fX9_inner bo FI CO CR SI SR BO p1 p2 = some res) : Met l yX9_inner wsX9_inner rX9_inner (va_Pc [.ref h0, .int p1, .int p2] (pR G (wMod G h0 qDR qLA qLE qCE qFI qCO qCR qSI qSR qMO qBO qPX qPY qPZ qSX dr bo po sx sy sw tx ty tz DR LA LE CE FI CO CR SI SR MO BO PX PY PZ SX))) (vp_Si (fun r => r = res)) 0 0 (fun _ => False) := by
  refine Met.ofW (cc := cX9_inner) (maxL := 3) (ret := (some .int)) (by decide) rfl ?_
  intro p e s m args below meth c s₁ B hml hv
  obtain ⟨rfl, hP, hK⟩ := hv
  have hx := B.exec
  have hb := B.bytes
  have hr := B.returns
  have hts := atoms_spec (ws := wsX9_inner) B.pre
  have hown : s.vm.findClass RX9 = some m.cls := findClass_of_methodNamed B.named
  have hlocks := B.notSynchronized
  have hcn58 := hts (.constantLong RX9 58 (5)) (by decide +kernel)
  have hl := lv_entry ([.ref h0, .int p1, .int p2]) (n := 3) (Nat.le_of_ble_eq_true rfl)
  rw [lg_entry_eq]
  generalize (lg_sl ([.ref h0, .int p1, .int p2]) ++ List.replicate (3 - (lg_sl ([.ref h0, .int p1, .int p2])).length) Slot.unset).toArray = ls at hl ⊢
  have hl : lv_has ls 3 [(0, .ref h0), (1, .int p1), (2, .int p2)] := hl
  unfold fX9_inner at hF
  refine lv_aload_n hx hb dX9_inner_0 rfl (lv_at hl 0 rfl) ?_
  refine lv_iload_n hx hb dX9_inner_1 rfl (lv_at hl 1 rfl) ?_
  obtain ⟨v_1, hv_1, hF⟩ := bd_s hF
  refine ro_ze (va_runV (As := [.int p1]) (rest := []) ⟨hx, hb, hml, hown, hts⟩ (kX9_is l G h0 qDR qLA qLE qCE qFI qCO qCR qSI qSR qMO qBO qPX qPY qPZ qSX dr bo po sx sy sw tx ty tz DR LA LE CE FI CO CR SI SR MO BO PX PY PZ SX p1 v_1 hv_1) (cwV 1 hts gX9_inner_X9_is rfl rfl rfl (by decide +kernel) ⟨Nat.le_of_ble_eq_true rfl, Nat.le_of_ble_eq_true rfl⟩) (pvR (q0 := 0) 9 hK (hP.sub (ws' := (wMod G h0 qDR qLA qLE qCE qFI qCO qCR qSI qSR qMO qBO qPX qPY qPZ qSX dr bo po sx sy sw tx ty tz DR LA LE CE FI CO CR SI SR MO BO PX PY PZ SX)) [0, 1, 2, 3, 4, 5, 6, 7, 8, 9, 10, 11, 12, 13, 14, 15] rfl) rfl rfl) rfl rfl hl.1 rfl (lv_room (Nat.le_of_ble_eq_true rfl)) dX9_inner_2 ⟨Nat.le_of_ble_eq_true rfl, Nat.le_of_ble_eq_true rfl⟩) (fun hb_2 => ?_)
  refine lv_if_eq (tgt := 30) hx hb dX9_inner_5 (by decide) (fun c_3 => ?_) (fun c_3 => ?_)
  · replace hF := it_p c_3 hF
    refine lv_iconst (v := (-1)) hx hb dX9_inner_30 (by decide) ?_
    exact W.iret (v := (-1)) hx hb hr  (fun t ht hW => ⟨(-1), rfl, (so_e hF), ht⟩) (fun q h => absurd h List.not_mem_nil) dX9_inner_31
  · replace hF := it_n c_3 hF
    refine lv_iload_n hx hb dX9_inner_8 rfl (lv_at hl 2 rfl) ?_
    refine lv_i2l hx hb dX9_inner_9 rfl ?_
    refine lv_lconst (v := 1) hx hb dX9_inner_10 (by decide) ?_
    refine lv_ldc2 (v := 5) hx hb hown hcn58 dX9_inner_11 ?_
    obtain ⟨v_4, hv_4, hF⟩ := bd_s hF
    refine ro_ze (va_runS (As := [.long p2.toInt64, .long 1, .long 5]) (rest := []) ⟨hx, hb, hml, hown, hts⟩ (kX9_in l G p2.toInt64 1 5 v_4 hv_4) (va_cwS 3 hts gX9_inner_X9_in rfl rfl rfl (by decide +kernel) ⟨Nat.le_of_ble_eq_true rfl, Nat.le_of_ble_eq_true rfl⟩) (psR hK (hP.sub (ws' := ([] : va_W)) [] rfl)) rfl rfl hl.1 rfl (lv_room (Nat.le_of_ble_eq_true rfl)) dX9_inner_14 ⟨Nat.le_of_ble_eq_true rfl, Nat.le_of_ble_eq_true rfl⟩) (fun hb_5 => ?_)
    refine lv_if_eq (tgt := 30) hx hb dX9_inner_17 (by decide) (fun c_6 => ?_) (fun c_6 => ?_)
    · replace hF := it_p c_6 hF
      refine lv_iconst (v := (-1)) hx hb dX9_inner_30 (by decide) ?_
      exact W.iret (v := (-1)) hx hb hr  (fun t ht hW => ⟨(-1), rfl, (so_e hF), ht⟩) (fun q h => absurd h List.not_mem_nil) dX9_inner_31
    · replace hF := it_n c_6 hF
      refine lv_aload_n hx hb dX9_inner_20 rfl (lv_at hl 0 rfl) ?_
      refine lv_iload_n hx hb dX9_inner_21 rfl (lv_at hl 1 rfl) ?_
      refine lv_iload_n hx hb dX9_inner_22 rfl (lv_at hl 2 rfl) ?_
      refine lv_iconst (v := 2) hx hb dX9_inner_23 (by decide) ?_
      obtain ⟨v_7, hv_7, hF⟩ := bd_s hF
      refine ro_ie (va_runV (As := [.int p1, .int p2, .int 2]) (rest := []) ⟨hx, hb, hml, hown, hts⟩ (kX9_counted l G h0 qDR qLA qLE qCE qFI qCO qCR qSI qSR qMO qBO qPX qPY qPZ qSX dr bo po sx sy sw tx ty tz DR LA LE CE FI CO CR SI SR MO BO PX PY PZ SX p1 p2 2 v_7 hv_7) (cwV 3 hts gX9_inner_X9_counted rfl rfl rfl (by decide +kernel) ⟨Nat.le_of_ble_eq_true rfl, Nat.le_of_ble_eq_true rfl⟩) (pvR (q0 := 0) 9 hK (hP.sub (ws' := (wMod G h0 qDR qLA qLE qCE qFI qCO qCR qSI qSR qMO qBO qPX qPY qPZ qSX dr bo po sx sy sw tx ty tz DR LA LE CE FI CO CR SI SR MO BO PX PY PZ SX)) [0, 1, 2, 3, 4, 5, 6, 7, 8, 9, 10, 11, 12, 13, 14, 15] rfl) rfl rfl) rfl rfl hl.1 rfl (lv_room (Nat.le_of_ble_eq_true rfl)) dX9_inner_24 ⟨Nat.le_of_ble_eq_true rfl, Nat.le_of_ble_eq_true rfl⟩) ?_
      refine lv_goto (tgt := 31) hx hb dX9_inner_27 (by decide) ?_
      exact W.iret (v := v_7) hx hb hr  (fun t ht hW => ⟨v_7, rfl, (so_e hF), ht⟩) (fun q h => absurd h List.not_mem_nil) dX9_inner_31
