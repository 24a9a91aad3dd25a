def fX4_init (p1 : Int32) : Option ((Nat → Int32) × Nat × (Nat → Int32) × (Nat → Int32)) :=
  (gd_len (if p1 < 0 then 0 else p1) 130 (gd_len (if p1 < 0 then 0 else p1) 130 (gd_len (if p1 < 0 then 0 else p1) 130 (some (fun _ => 0, (if p1 < 0 then 0 else p1).toNatClampNeg, fun _ => 0, fun _ => 0)))))
abbrev rX4_init : Room := { frames := 1, cells := 3, slots := 390, locals := 21 }
set_option maxHeartbeats 40000000 in
set_option maxRecDepth 100000 in
theorem kX4_init (l : Launch) (G : GT) (h0 : Nat) (sz : Nat) (z0 : Int32) (p1 : Int32) (res : (Nat → Int32) × Nat × (Nat → Int32) × (Nat → Int32)) (hF : fX4_init p1 = some res) : Met l yX4_init wsX4_init rX4_init (va_Pc [.ref h0, .int p1] (pW G sz [(h0, .inr (4, [.null, .null, .null, .int z0]))])) (va_Qv (fun (u : (Nat → Int32) × Nat × (Nat → Int32) × (Nat → Int32)) => u = res) (fun u t => ∃ nu : Nat → Nat, qW G (va_A [(h0, .inr (4, [.null, .null, .null, .int z0]))] sz) [(h0, .inr (4, [.ref (nu 0), .ref (nu 1), .ref (nu 2), .int z0])), ((nu 0), .inl (gI G, u.2.1, .inl u.1)), ((nu 1), .inl (gI G, u.2.1, .inl u.2.2.1)), ((nu 2), .inl (gI G, u.2.1, .inl u.2.2.2))] t) (va_A [(h0, .inr (4, [.null, .null, .null, .int z0]))] sz)) 3 390 (va_A [(h0, .inr (4, [.null, .null, .null, .int z0]))] sz) := by
  refine Met.ofW (cc := cX4_init) (maxL := 3) (ret := none) (by decide) rfl ?_
  intro p e s m args below meth c s₁ B hml hv
  obtain ⟨rfl, ⟨hsz, hP, hK, hD0⟩⟩ := hv
  have hx := B.exec
  have hb := B.bytes
  have hr := B.returns
  have hts := atoms_spec (ws := wsX4_init) B.pre
  have hown : s.vm.findClass RX4 = some m.cls := findClass_of_methodNamed B.named
  have hlocks := B.notSynchronized
  have hin : meth.name = "<init>" := (name_of_methodNamed B.named B.method).1
  subst hsz
  have hD := hD0.self (sz := s.heap.size)
  generalize hAe : va_A [(h0, .inr (4, [.null, .null, .null, .int z0]))] s.heap.size = A at hD ⊢
  have hA : ∀ q : Nat, s.heap.size ≤ q → A q := fun q h => by rw [← hAe]; exact Or.inr h
  have hS : va_S A s.heap s.heap [] := va_S.rf
  have hoi3 := hts (.methodLink RX4 3 objectInit) (by decide +kernel)
  have hoin := hts (.instanceMethod objectInit) (by decide +kernel)
  have hoic := hts (.code objectInit ⟨#[0xb1]⟩ 1 none) (by decide +kernel)
  have hm9 := hts (.methodLink RX4 9 Lib.Math.max.name) (by decide +kernel)
  have hmsmax := hts (.static Lib.Math.max.name) (by decide +kernel)
  have hmi := hts (.initialized "java/lang/Math") (by decide +kernel)
  have hmcmax := hts (.code Lib.Math.max.name Lib.Math.max.code 2 (some .int)) (by decide +kernel)
  have harrI := hts (.arrayClass .int) (by decide +kernel)
  have hin4 : ∀ w ∈ u_ws RX4 TX4 4, w ∈ wsX4_init := by decide +kernel
  have hfl15 := hts (.fieldLink RX4 15 "SwellBodies$Points" "x" "[I") (by decide +kernel)
  have hfl21 := hts (.fieldLink RX4 21 "SwellBodies$Points" "y" "[I") (by decide +kernel)
  have hfl24 := hts (.fieldLink RX4 24 "SwellBodies$Points" "z" "[I") (by decide +kernel)
  have hl := lv_entry ([.ref h0, .int p1]) (n := 3) (Nat.le_of_ble_eq_true rfl)
  rw [lg_entry_eq]
  generalize (lg_sl ([.ref h0, .int p1]) ++ List.replicate (3 - (lg_sl ([.ref h0, .int p1])).length) Slot.unset).toArray = ls at hl ⊢
  have hl : lv_has ls 3 [(0, .ref h0), (1, .int p1)] := hl
  unfold fX4_init at hF
  refine lv_aload_n hx hb dX4_init_0 rfl (lv_at hl 0 rfl) ?_
  refine W.objInit hx hb hown hoi3 hoin hoic rfl (by rw [hml]; exact hl.1) rfl dX4_init_1 (Nat.le_of_ble_eq_true rfl) (Nat.le_of_ble_eq_true rfl) ?_
  refine W.eq (g2 := F0 m 4 ls []) rfl ?_
  refine lv_iload_n hx hb dX4_init_4 rfl (lv_at hl 1 rfl) ?_
  refine lv_iconst (v := 0) hx hb dX4_init_5 (by decide) ?_
  refine va_mmax hx hb (by rw [hml]; exact hl.1.symm) hown hm9 hmsmax hmi hmcmax (Nat.le_of_ble_eq_true rfl) (Nat.le_of_ble_eq_true rfl) (Nat.le_of_ble_eq_true rfl) (Nat.le_of_ble_eq_true rfl) dX4_init_6 ?_
  refine lv_istore_n (lv' := [(2, .int (if p1 < 0 then 0 else p1)), (0, .ref h0), (1, .int p1)]) hx hb dX4_init_9 rfl hl (by decide) rfl (fun ls hl => ?_)
  refine lv_aload_n hx hb dX4_init_10 rfl (lv_at hl 1 rfl) ?_
  refine lv_iload_n hx hb dX4_init_11 rfl (lv_at hl 0 rfl) ?_
  obtain ⟨hn_1, hF⟩ := gd_len_s hF
  refine nw_I (N' := (if p1 < 0 then 0 else p1).toNatClampNeg) hx hb harrI hK hP hD hS hA hn_1.1 rfl (by have := hn_1.2; omega) (Nat.le_of_ble_eq_true rfl) (by have := hn_1.2; show 0 + _ ≤ 390; omega) dX4_init_12 (fun q12 H hP hD hS => ?_)
  have hP : va_P (gD G) vwCl [(h0, .inr (4, [.null, .null, .null, .int z0])), (q12, .inl (gI G, ((if p1 < 0 then 0 else p1).toNatClampNeg), .inl (fun _ => 0)))] H := hP
  have hD : va_D A [(h0, .inr (4, [.null, .null, .null, .int z0])), (q12, .inl (gI G, ((if p1 < 0 then 0 else p1).toNatClampNeg), .inl (fun _ => 0)))] := hD
  refine W.widen (k := 1) (n := 130) (by omega) (by have := hn_1.2; omega) ?_
  refine va_putF (ci := 4) (v := .ref q12) (ty := .array .int) (C := RX4) (T := TX4) (N := 4) hx hb hts hin4 tyX4 tyX4_ok nmX4 hown hK hP hD hS 0 rfl rfl 0 (by decide) hfl15 (fun _ h9 => h9) rfl hin rfl (by decide +kernel) rfl rfl (Nat.le_of_ble_eq_true rfl) dX4_init_14 (fun H locs hP hD hS => ?_)
  have hP : va_P (gD G) vwCl [(h0, .inr (4, [.ref q12, .null, .null, .int z0])), (q12, .inl (gI G, ((if p1 < 0 then 0 else p1).toNatClampNeg), .inl (fun _ => 0)))] H := hP
  have hD : va_D A [(h0, .inr (4, [.ref q12, .null, .null, .int z0])), (q12, .inl (gI G, ((if p1 < 0 then 0 else p1).toNatClampNeg), .inl (fun _ => 0)))] := hD
  refine lv_aload_n hx hb dX4_init_17 rfl (lv_at hl 1 rfl) ?_
  refine lv_iload_n hx hb dX4_init_18 rfl (lv_at hl 0 rfl) ?_
  obtain ⟨hn_2, hF⟩ := gd_len_s hF
  refine nw_I (N' := (if p1 < 0 then 0 else p1).toNatClampNeg) hx hb harrI hK hP hD hS hA hn_2.1 rfl (by have := hn_2.2; omega) (Nat.le_of_ble_eq_true rfl) (by have := hn_2.2; show 130 + _ ≤ 390; omega) dX4_init_19 (fun q19 H hP hD hS => ?_)
  have hP : va_P (gD G) vwCl [(h0, .inr (4, [.ref q12, .null, .null, .int z0])), (q12, .inl (gI G, ((if p1 < 0 then 0 else p1).toNatClampNeg), .inl (fun _ => 0))), (q19, .inl (gI G, ((if p1 < 0 then 0 else p1).toNatClampNeg), .inl (fun _ => 0)))] H := hP
  have hD : va_D A [(h0, .inr (4, [.ref q12, .null, .null, .int z0])), (q12, .inl (gI G, ((if p1 < 0 then 0 else p1).toNatClampNeg), .inl (fun _ => 0))), (q19, .inl (gI G, ((if p1 < 0 then 0 else p1).toNatClampNeg), .inl (fun _ => 0)))] := hD
  refine W.widen (k := 2) (n := 260) (by omega) (by have := hn_2.2; omega) ?_
  refine va_putF (ci := 4) (v := .ref q19) (ty := .array .int) (C := RX4) (T := TX4) (N := 4) hx hb hts hin4 tyX4 tyX4_ok nmX4 hown hK hP hD hS 0 rfl rfl 1 (by decide) hfl21 (fun _ h9 => h9) rfl hin rfl (by decide +kernel) rfl rfl (Nat.le_of_ble_eq_true rfl) dX4_init_21 (fun H locs hP hD hS => ?_)
  have hP : va_P (gD G) vwCl [(h0, .inr (4, [.ref q12, .ref q19, .null, .int z0])), (q12, .inl (gI G, ((if p1 < 0 then 0 else p1).toNatClampNeg), .inl (fun _ => 0))), (q19, .inl (gI G, ((if p1 < 0 then 0 else p1).toNatClampNeg), .inl (fun _ => 0)))] H := hP
  have hD : va_D A [(h0, .inr (4, [.ref q12, .ref q19, .null, .int z0])), (q12, .inl (gI G, ((if p1 < 0 then 0 else p1).toNatClampNeg), .inl (fun _ => 0))), (q19, .inl (gI G, ((if p1 < 0 then 0 else p1).toNatClampNeg), .inl (fun _ => 0)))] := hD
  refine lv_aload_n hx hb dX4_init_24 rfl (lv_at hl 1 rfl) ?_
  refine lv_iload_n hx hb dX4_init_25 rfl (lv_at hl 0 rfl) ?_
  obtain ⟨hn_3, hF⟩ := gd_len_s hF
  refine nw_I (N' := (if p1 < 0 then 0 else p1).toNatClampNeg) hx hb harrI hK hP hD hS hA hn_3.1 rfl (by have := hn_3.2; omega) (Nat.le_of_ble_eq_true rfl) (by have := hn_3.2; show 260 + _ ≤ 390; omega) dX4_init_26 (fun q26 H hP hD hS => ?_)
  have hP : va_P (gD G) vwCl [(h0, .inr (4, [.ref q12, .ref q19, .null, .int z0])), (q12, .inl (gI G, ((if p1 < 0 then 0 else p1).toNatClampNeg), .inl (fun _ => 0))), (q19, .inl (gI G, ((if p1 < 0 then 0 else p1).toNatClampNeg), .inl (fun _ => 0))), (q26, .inl (gI G, ((if p1 < 0 then 0 else p1).toNatClampNeg), .inl (fun _ => 0)))] H := hP
  have hD : va_D A [(h0, .inr (4, [.ref q12, .ref q19, .null, .int z0])), (q12, .inl (gI G, ((if p1 < 0 then 0 else p1).toNatClampNeg), .inl (fun _ => 0))), (q19, .inl (gI G, ((if p1 < 0 then 0 else p1).toNatClampNeg), .inl (fun _ => 0))), (q26, .inl (gI G, ((if p1 < 0 then 0 else p1).toNatClampNeg), .inl (fun _ => 0)))] := hD
  refine W.widen (k := 3) (n := 390) (by omega) (by have := hn_3.2; omega) ?_
  refine va_putF (ci := 4) (v := .ref q26) (ty := .array .int) (C := RX4) (T := TX4) (N := 4) hx hb hts hin4 tyX4 tyX4_ok nmX4 hown hK hP hD hS 0 rfl rfl 2 (by decide) hfl24 (fun _ h9 => h9) rfl hin rfl (by decide +kernel) rfl rfl (Nat.le_of_ble_eq_true rfl) dX4_init_28 (fun H locs hP hD hS => ?_)
  have hP : va_P (gD G) vwCl [(h0, .inr (4, [.ref q12, .ref q19, .ref q26, .int z0])), (q12, .inl (gI G, ((if p1 < 0 then 0 else p1).toNatClampNeg), .inl (fun _ => 0))), (q19, .inl (gI G, ((if p1 < 0 then 0 else p1).toNatClampNeg), .inl (fun _ => 0))), (q26, .inl (gI G, ((if p1 < 0 then 0 else p1).toNatClampNeg), .inl (fun _ => 0)))] H := hP
  have hD : va_D A [(h0, .inr (4, [.ref q12, .ref q19, .ref q26, .int z0])), (q12, .inl (gI G, ((if p1 < 0 then 0 else p1).toNatClampNeg), .inl (fun _ => 0))), (q19, .inl (gI G, ((if p1 < 0 then 0 else p1).toNatClampNeg), .inl (fun _ => 0))), (q26, .inl (gI G, ((if p1 < 0 then 0 else p1).toNatClampNeg), .inl (fun _ => 0)))] := hD
  exact W.vret hx hb hr (fun t ht hW => ⟨⟨(fun _ => 0, (if p1 < 0 then 0 else p1).toNatClampNeg, fun _ => 0, fun _ => 0), rfl, so_e hF, (fun i => [q12, q19, q26].getD i 0), qW_mk ht hP hK hW hD⟩, hS.F ht⟩) hS.2.2 dX4_init_31
def fX1_init (p1 : Int32) : Option ((Nat → Int32) × Nat × (Nat → Int32) × (Nat → Int32) × (Nat → Int32)) :=
  (gd_len (if p1 < 0 then 0 else p1) 90 (gd_len (if p1 < 0 then 0 else p1) 90 (gd_len (if p1 < 0 then 0 else p1) 90 (gd_len (if p1 < 0 then 0 else p1) 90 (some (fun _ => 0, (if p1 < 0 then 0 else p1).toNatClampNeg, fun _ => 0, fun _ => 0, fun _ => 0))))))
abbrev rX1_init : Room := { frames := 1, cells := 4, slots := 360, locals := 21 }
set_option maxHeartbeats 40000000 in
set_option maxRecDepth 100000 in
theorem kX1_init (l : Launch) (G : GT) (h0 : Nat) (sz : Nat) (z0 : Int32) (p1 : Int32) (res : (Nat → Int32) × Nat × (Nat → Int32) × (Nat → Int32) × (Nat → Int32)) (hF : fX1_init p1 = some res) : Met l yX1_init wsX1_init rX1_init (va_Pc [.ref h0, .int p1] (pW G sz [(h0, .inr (1, [.null, .null, .null, .null, .int z0]))])) (va_Qv (fun (u : (Nat → Int32) × Nat × (Nat → Int32) × (Nat → Int32) × (Nat → Int32)) => u = res) (fun u t => ∃ nu : Nat → Nat, qW G (va_A [(h0, .inr (1, [.null, .null, .null, .null, .int z0]))] sz) [(h0, .inr (1, [.ref (nu 0), .ref (nu 1), .ref (nu 2), .ref (nu 3), .int z0])), ((nu 0), .inl (gI G, u.2.1, .inl u.1)), ((nu 1), .inl (gI G, u.2.1, .inl u.2.2.1)), ((nu 2), .inl (gI G, u.2.1, .inl u.2.2.2.1)), ((nu 3), .inl (gI G, u.2.1, .inl u.2.2.2.2))] t) (va_A [(h0, .inr (1, [.null, .null, .null, .null, .int z0]))] sz)) 4 360 (va_A [(h0, .inr (1, [.null, .null, .null, .null, .int z0]))] sz) := by
  refine Met.ofW (cc := cX1_init) (maxL := 3) (ret := none) (by decide) rfl ?_
  intro p e s m args below meth c s₁ B hml hv
  obtain ⟨rfl, ⟨hsz, hP, hK, hD0⟩⟩ := hv
  have hx := B.exec
  have hb := B.bytes
  have hr := B.returns
  have hts := atoms_spec (ws := wsX1_init) B.pre
  have hown : s.vm.findClass RX1 = some m.cls := findClass_of_methodNamed B.named
  have hlocks := B.notSynchronized
  have hin : meth.name = "<init>" := (name_of_methodNamed B.named B.method).1
  subst hsz
  have hD := hD0.self (sz := s.heap.size)
  generalize hAe : va_A [(h0, .inr (1, [.null, .null, .null, .null, .int z0]))] s.heap.size = A at hD ⊢
  have hA : ∀ q : Nat, s.heap.size ≤ q → A q := fun q h => by rw [← hAe]; exact Or.inr h
  have hS : va_S A s.heap s.heap [] := va_S.rf
  have hoi3 := hts (.methodLink RX1 3 objectInit) (by decide +kernel)
  have hoin := hts (.instanceMethod objectInit) (by decide +kernel)
  have hoic := hts (.code objectInit ⟨#[0xb1]⟩ 1 none) (by decide +kernel)
  have hm9 := hts (.methodLink RX1 9 Lib.Math.max.name) (by decide +kernel)
  have hmsmax := hts (.static Lib.Math.max.name) (by decide +kernel)
  have hmi := hts (.initialized "java/lang/Math") (by decide +kernel)
  have hmcmax := hts (.code Lib.Math.max.name Lib.Math.max.code 2 (some .int)) (by decide +kernel)
  have harrI := hts (.arrayClass .int) (by decide +kernel)
  have hin1 : ∀ w ∈ u_ws RX1 TX1 5, w ∈ wsX1_init := by decide +kernel
  have hfl15 := hts (.fieldLink RX1 15 "SwellBodies$Conditions" "a" "[I") (by decide +kernel)
  have hfl21 := hts (.fieldLink RX1 21 "SwellBodies$Conditions" "b" "[I") (by decide +kernel)
  have hfl24 := hts (.fieldLink RX1 24 "SwellBodies$Conditions" "c" "[I") (by decide +kernel)
  have hfl27 := hts (.fieldLink RX1 27 "SwellBodies$Conditions" "e" "[I") (by decide +kernel)
  have hl := lv_entry ([.ref h0, .int p1]) (n := 3) (Nat.le_of_ble_eq_true rfl)
  rw [lg_entry_eq]
  generalize (lg_sl ([.ref h0, .int p1]) ++ List.replicate (3 - (lg_sl ([.ref h0, .int p1])).length) Slot.unset).toArray = ls at hl ⊢
  have hl : lv_has ls 3 [(0, .ref h0), (1, .int p1)] := hl
  unfold fX1_init at hF
  refine lv_aload_n hx hb dX1_init_0 rfl (lv_at hl 0 rfl) ?_
  refine W.objInit hx hb hown hoi3 hoin hoic rfl (by rw [hml]; exact hl.1) rfl dX1_init_1 (Nat.le_of_ble_eq_true rfl) (Nat.le_of_ble_eq_true rfl) ?_
  refine W.eq (g2 := F0 m 4 ls []) rfl ?_
  refine lv_iload_n hx hb dX1_init_4 rfl (lv_at hl 1 rfl) ?_
  refine lv_iconst (v := 0) hx hb dX1_init_5 (by decide) ?_
  refine va_mmax hx hb (by rw [hml]; exact hl.1.symm) hown hm9 hmsmax hmi hmcmax (Nat.le_of_ble_eq_true rfl) (Nat.le_of_ble_eq_true rfl) (Nat.le_of_ble_eq_true rfl) (Nat.le_of_ble_eq_true rfl) dX1_init_6 ?_
  refine lv_istore_n (lv' := [(2, .int (if p1 < 0 then 0 else p1)), (0, .ref h0), (1, .int p1)]) hx hb dX1_init_9 rfl hl (by decide) rfl (fun ls hl => ?_)
  refine lv_aload_n hx hb dX1_init_10 rfl (lv_at hl 1 rfl) ?_
  refine lv_iload_n hx hb dX1_init_11 rfl (lv_at hl 0 rfl) ?_
  obtain ⟨hn_1, hF⟩ := gd_len_s hF
  refine nw_I (N' := (if p1 < 0 then 0 else p1).toNatClampNeg) hx hb harrI hK hP hD hS hA hn_1.1 rfl (by have := hn_1.2; omega) (Nat.le_of_ble_eq_true rfl) (by have := hn_1.2; show 0 + _ ≤ 360; omega) dX1_init_12 (fun q12 H hP hD hS => ?_)
  have hP : va_P (gD G) vwCl [(h0, .inr (1, [.null, .null, .null, .null, .int z0])), (q12, .inl (gI G, ((if p1 < 0 then 0 else p1).toNatClampNeg), .inl (fun _ => 0)))] H := hP
  have hD : va_D A [(h0, .inr (1, [.null, .null, .null, .null, .int z0])), (q12, .inl (gI G, ((if p1 < 0 then 0 else p1).toNatClampNeg), .inl (fun _ => 0)))] := hD
  refine W.widen (k := 1) (n := 90) (by omega) (by have := hn_1.2; omega) ?_
  refine va_putF (ci := 1) (v := .ref q12) (ty := .array .int) (C := RX1) (T := TX1) (N := 5) hx hb hts hin1 tyX1 tyX1_ok nmX1 hown hK hP hD hS 0 rfl rfl 0 (by decide) hfl15 (fun _ h9 => h9) rfl hin rfl (by decide +kernel) rfl rfl (Nat.le_of_ble_eq_true rfl) dX1_init_14 (fun H locs hP hD hS => ?_)
  have hP : va_P (gD G) vwCl [(h0, .inr (1, [.ref q12, .null, .null, .null, .int z0])), (q12, .inl (gI G, ((if p1 < 0 then 0 else p1).toNatClampNeg), .inl (fun _ => 0)))] H := hP
  have hD : va_D A [(h0, .inr (1, [.ref q12, .null, .null, .null, .int z0])), (q12, .inl (gI G, ((if p1 < 0 then 0 else p1).toNatClampNeg), .inl (fun _ => 0)))] := hD
  refine lv_aload_n hx hb dX1_init_17 rfl (lv_at hl 1 rfl) ?_
  refine lv_iload_n hx hb dX1_init_18 rfl (lv_at hl 0 rfl) ?_
  obtain ⟨hn_2, hF⟩ := gd_len_s hF
  refine nw_I (N' := (if p1 < 0 then 0 else p1).toNatClampNeg) hx hb harrI hK hP hD hS hA hn_2.1 rfl (by have := hn_2.2; omega) (Nat.le_of_ble_eq_true rfl) (by have := hn_2.2; show 90 + _ ≤ 360; omega) dX1_init_19 (fun q19 H hP hD hS => ?_)
  have hP : va_P (gD G) vwCl [(h0, .inr (1, [.ref q12, .null, .null, .null, .int z0])), (q12, .inl (gI G, ((if p1 < 0 then 0 else p1).toNatClampNeg), .inl (fun _ => 0))), (q19, .inl (gI G, ((if p1 < 0 then 0 else p1).toNatClampNeg), .inl (fun _ => 0)))] H := hP
  have hD : va_D A [(h0, .inr (1, [.ref q12, .null, .null, .null, .int z0])), (q12, .inl (gI G, ((if p1 < 0 then 0 else p1).toNatClampNeg), .inl (fun _ => 0))), (q19, .inl (gI G, ((if p1 < 0 then 0 else p1).toNatClampNeg), .inl (fun _ => 0)))] := hD
  refine W.widen (k := 2) (n := 180) (by omega) (by have := hn_2.2; omega) ?_
  refine va_putF (ci := 1) (v := .ref q19) (ty := .array .int) (C := RX1) (T := TX1) (N := 5) hx hb hts hin1 tyX1 tyX1_ok nmX1 hown hK hP hD hS 0 rfl rfl 1 (by decide) hfl21 (fun _ h9 => h9) rfl hin rfl (by decide +kernel) rfl rfl (Nat.le_of_ble_eq_true rfl) dX1_init_21 (fun H locs hP hD hS => ?_)
  have hP : va_P (gD G) vwCl [(h0, .inr (1, [.ref q12, .ref q19, .null, .null, .int z0])), (q12, .inl (gI G, ((if p1 < 0 then 0 else p1).toNatClampNeg), .inl (fun _ => 0))), (q19, .inl (gI G, ((if p1 < 0 then 0 else p1).toNatClampNeg), .inl (fun _ => 0)))] H := hP
  have hD : va_D A [(h0, .inr (1, [.ref q12, .ref q19, .null, .null, .int z0])), (q12, .inl (gI G, ((if p1 < 0 then 0 else p1).toNatClampNeg), .inl (fun _ => 0))), (q19, .inl (gI G, ((if p1 < 0 then 0 else p1).toNatClampNeg), .inl (fun _ => 0)))] := hD
  refine lv_aload_n hx hb dX1_init_24 rfl (lv_at hl 1 rfl) ?_
  refine lv_iload_n hx hb dX1_init_25 rfl (lv_at hl 0 rfl) ?_
  obtain ⟨hn_3, hF⟩ := gd_len_s hF
  refine nw_I (N' := (if p1 < 0 then 0 else p1).toNatClampNeg) hx hb harrI hK hP hD hS hA hn_3.1 rfl (by have := hn_3.2; omega) (Nat.le_of_ble_eq_true rfl) (by have := hn_3.2; show 180 + _ ≤ 360; omega) dX1_init_26 (fun q26 H hP hD hS => ?_)
  have hP : va_P (gD G) vwCl [(h0, .inr (1, [.ref q12, .ref q19, .null, .null, .int z0])), (q12, .inl (gI G, ((if p1 < 0 then 0 else p1).toNatClampNeg), .inl (fun _ => 0))), (q19, .inl (gI G, ((if p1 < 0 then 0 else p1).toNatClampNeg), .inl (fun _ => 0))), (q26, .inl (gI G, ((if p1 < 0 then 0 else p1).toNatClampNeg), .inl (fun _ => 0)))] H := hP
  have hD : va_D A [(h0, .inr (1, [.ref q12, .ref q19, .null, .null, .int z0])), (q12, .inl (gI G, ((if p1 < 0 then 0 else p1).toNatClampNeg), .inl (fun _ => 0))), (q19, .inl (gI G, ((if p1 < 0 then 0 else p1).toNatClampNeg), .inl (fun _ => 0))), (q26, .inl (gI G, ((if p1 < 0 then 0 else p1).toNatClampNeg), .inl (fun _ => 0)))] := hD
  refine W.widen (k := 3) (n := 270) (by omega) (by have := hn_3.2; omega) ?_
  refine va_putF (ci := 1) (v := .ref q26) (ty := .array .int) (C := RX1) (T := TX1) (N := 5) hx hb hts hin1 tyX1 tyX1_ok nmX1 hown hK hP hD hS 0 rfl rfl 2 (by decide) hfl24 (fun _ h9 => h9) rfl hin rfl (by decide +kernel) rfl rfl (Nat.le_of_ble_eq_true rfl) dX1_init_28 (fun H locs hP hD hS => ?_)
  have hP : va_P (gD G) vwCl [(h0, .inr (1, [.ref q12, .ref q19, .ref q26, .null, .int z0])), (q12, .inl (gI G, ((if p1 < 0 then 0 else p1).toNatClampNeg), .inl (fun _ => 0))), (q19, .inl (gI G, ((if p1 < 0 then 0 else p1).toNatClampNeg), .inl (fun _ => 0))), (q26, .inl (gI G, ((if p1 < 0 then 0 else p1).toNatClampNeg), .inl (fun _ => 0)))] H := hP
  have hD : va_D A [(h0, .inr (1, [.ref q12, .ref q19, .ref q26, .null, .int z0])), (q12, .inl (gI G, ((if p1 < 0 then 0 else p1).toNatClampNeg), .inl (fun _ => 0))), (q19, .inl (gI G, ((if p1 < 0 then 0 else p1).toNatClampNeg), .inl (fun _ => 0))), (q26, .inl (gI G, ((if p1 < 0 then 0 else p1).toNatClampNeg), .inl (fun _ => 0)))] := hD
  refine lv_aload_n hx hb dX1_init_31 rfl (lv_at hl 1 rfl) ?_
  refine lv_iload_n hx hb dX1_init_32 rfl (lv_at hl 0 rfl) ?_
  obtain ⟨hn_4, hF⟩ := gd_len_s hF
  refine nw_I (N' := (if p1 < 0 then 0 else p1).toNatClampNeg) hx hb harrI hK hP hD hS hA hn_4.1 rfl (by have := hn_4.2; omega) (Nat.le_of_ble_eq_true rfl) (by have := hn_4.2; show 270 + _ ≤ 360; omega) dX1_init_33 (fun q33 H hP hD hS => ?_)
  have hP : va_P (gD G) vwCl [(h0, .inr (1, [.ref q12, .ref q19, .ref q26, .null, .int z0])), (q12, .inl (gI G, ((if p1 < 0 then 0 else p1).toNatClampNeg), .inl (fun _ => 0))), (q19, .inl (gI G, ((if p1 < 0 then 0 else p1).toNatClampNeg), .inl (fun _ => 0))), (q26, .inl (gI G, ((if p1 < 0 then 0 else p1).toNatClampNeg), .inl (fun _ => 0))), (q33, .inl (gI G, ((if p1 < 0 then 0 else p1).toNatClampNeg), .inl (fun _ => 0)))] H := hP
  have hD : va_D A [(h0, .inr (1, [.ref q12, .ref q19, .ref q26, .null, .int z0])), (q12, .inl (gI G, ((if p1 < 0 then 0 else p1).toNatClampNeg), .inl (fun _ => 0))), (q19, .inl (gI G, ((if p1 < 0 then 0 else p1).toNatClampNeg), .inl (fun _ => 0))), (q26, .inl (gI G, ((if p1 < 0 then 0 else p1).toNatClampNeg), .inl (fun _ => 0))), (q33, .inl (gI G, ((if p1 < 0 then 0 else p1).toNatClampNeg), .inl (fun _ => 0)))] := hD
  refine W.widen (k := 4) (n := 360) (by omega) (by have := hn_4.2; omega) ?_
  refine va_putF (ci := 1) (v := .ref q33) (ty := .array .int) (C := RX1) (T := TX1) (N := 5) hx hb hts hin1 tyX1 tyX1_ok nmX1 hown hK hP hD hS 0 rfl rfl 3 (by decide) hfl27 (fun _ h9 => h9) rfl hin rfl (by decide +kernel) rfl rfl (Nat.le_of_ble_eq_true rfl) dX1_init_35 (fun H locs hP hD hS => ?_)
  have hP : va_P (gD G) vwCl [(h0, .inr (1, [.ref q12, .ref q19, .ref q26, .ref q33, .int z0])), (q12, .inl (gI G, ((if p1 < 0 then 0 else p1).toNatClampNeg), .inl (fun _ => 0))), (q19, .inl (gI G, ((if p1 < 0 then 0 else p1).toNatClampNeg), .inl (fun _ => 0))), (q26, .inl (gI G, ((if p1 < 0 then 0 else p1).toNatClampNeg), .inl (fun _ => 0))), (q33, .inl (gI G, ((if p1 < 0 then 0 else p1).toNatClampNeg), .inl (fun _ => 0)))] H := hP
  have hD : va_D A [(h0, .inr (1, [.ref q12, .ref q19, .ref q26, .ref q33, .int z0])), (q12, .inl (gI G, ((if p1 < 0 then 0 else p1).toNatClampNeg), .inl (fun _ => 0))), (q19, .inl (gI G, ((if p1 < 0 then 0 else p1).toNatClampNeg), .inl (fun _ => 0))), (q26, .inl (gI G, ((if p1 < 0 then 0 else p1).toNatClampNeg), .inl (fun _ => 0))), (q33, .inl (gI G, ((if p1 < 0 then 0 else p1).toNatClampNeg), .inl (fun _ => 0)))] := hD
  exact W.vret hx hb hr (fun t ht hW => ⟨⟨(fun _ => 0, (if p1 < 0 then 0 else p1).toNatClampNeg, fun _ => 0, fun _ => 0, fun _ => 0), rfl, so_e hF, (fun i => [q12, q19, q26, q33].getD i 0), qW_mk ht hP hK hW hD⟩, hS.F ht⟩) hS.2.2 dX1_init_38
def fX6_init  : Option (Unit) :=
  (some ())
abbrev rX6_init : Room := { frames := 1, cells := 0, slots := 0, locals := 20 }
set_option maxHeartbeats 40000000 in
set_option maxRecDepth 100000 in
theorem kX6_init (l : Launch) (G : GT) (h0 : Nat) (sz : Nat) (z0 : Int32) (z1 : Int32) (z2 : Int32) (res : Unit) (hF : fX6_init = some res) : Met l yX6_init wsX6_init rX6_init (va_Pc [.ref h0] (pW G sz [(h0, .inr (6, [.int z0, .int z1, .int z2]))])) (va_Qv (fun (u : Unit) => u = res) (fun u t => ∃ nu : Nat → Nat, qW G (va_A [(h0, .inr (6, [.int z0, .int z1, .int z2]))] sz) [(h0, .inr (6, [.int z0, .int z1, .int z2]))] t) (va_A [(h0, .inr (6, [.int z0, .int z1, .int z2]))] sz)) 0 0 (va_A [(h0, .inr (6, [.int z0, .int z1, .int z2]))] sz) := by
  refine Met.ofW (cc := cX6_init) (maxL := 1) (ret := none) (by decide) rfl ?_
  intro p e s m args below meth c s₁ B hml hv
  obtain ⟨rfl, ⟨hsz, hP, hK, hD0⟩⟩ := hv
  have hx := B.exec
  have hb := B.bytes
  have hr := B.returns
  have hts := atoms_spec (ws := wsX6_init) B.pre
  have hown : s.vm.findClass RX6 = some m.cls := findClass_of_methodNamed B.named
  have hlocks := B.notSynchronized
  have hin : meth.name = "<init>" := (name_of_methodNamed B.named B.method).1
  subst hsz
  have hD := hD0.self (sz := s.heap.size)
  generalize hAe : va_A [(h0, .inr (6, [.int z0, .int z1, .int z2]))] s.heap.size = A at hD ⊢
  have hA : ∀ q : Nat, s.heap.size ≤ q → A q := fun q h => by rw [← hAe]; exact Or.inr h
  have hS : va_S A s.heap s.heap [] := va_S.rf
  have hoi1 := hts (.methodLink RX6 1 objectInit) (by decide +kernel)
  have hoin := hts (.instanceMethod objectInit) (by decide +kernel)
  have hoic := hts (.code objectInit ⟨#[0xb1]⟩ 1 none) (by decide +kernel)
  have hl := lv_entry ([.ref h0]) (n := 1) (Nat.le_of_ble_eq_true rfl)
  rw [lg_entry_eq]
  generalize (lg_sl ([.ref h0]) ++ List.replicate (1 - (lg_sl ([.ref h0])).length) Slot.unset).toArray = ls at hl ⊢
  have hl : lv_has ls 1 [(0, .ref h0)] := hl
  unfold fX6_init at hF
  refine lv_aload_n hx hb dX6_init_0 rfl (lv_at hl 0 rfl) ?_
  refine W.objInit hx hb hown hoi1 hoin hoic rfl (by rw [hml]; exact hl.1) rfl dX6_init_1 (Nat.le_of_ble_eq_true rfl) (Nat.le_of_ble_eq_true rfl) ?_
  refine W.eq (g2 := F0 m 4 ls []) rfl ?_
  exact W.vret hx hb hr (fun t ht hW => ⟨⟨(), rfl, so_e hF, (fun i => [].getD i 0), qW_mk ht hP hK hW hD⟩, hS.F ht⟩) hS.2.2 dX6_init_4
def fX5_init (z0 : Int32) : Option (Int32 × (Nat → Int64)) :=
  (some ((-1), fun _ => 0))
abbrev rX5_init : Room := { frames := 1, cells := 1, slots := 36, locals := 20 }
set_option maxHeartbeats 40000000 in
set_option maxRecDepth 100000 in
theorem kX5_init (l : Launch) (G : GT) (h0 : Nat) (sz : Nat) (z0 : Int32) (z1 : Int32) (res : Int32 × (Nat → Int64)) (hF : fX5_init z0 = some res) : Met l yX5_init wsX5_init rX5_init (va_Pc [.ref h0] (pW G sz [(h0, .inr (5, [.null, .int z0, .int z1]))])) (va_Qv (fun (u : Int32 × (Nat → Int64)) => u = res) (fun u t => ∃ nu : Nat → Nat, qW G (va_A [(h0, .inr (5, [.null, .int z0, .int z1]))] sz) [(h0, .inr (5, [.ref (nu 0), .int u.1, .int z1])), ((nu 0), .inl (gJ G, 36, .inr (.inl u.2)))] t) (va_A [(h0, .inr (5, [.null, .int z0, .int z1]))] sz)) 1 36 (va_A [(h0, .inr (5, [.null, .int z0, .int z1]))] sz) := by
  refine Met.ofW (cc := cX5_init) (maxL := 1) (ret := none) (by decide) rfl ?_
  intro p e s m args below meth c s₁ B hml hv
  obtain ⟨rfl, ⟨hsz, hP, hK, hD0⟩⟩ := hv
  have hx := B.exec
  have hb := B.bytes
  have hr := B.returns
  have hts := atoms_spec (ws := wsX5_init) B.pre
  have hown : s.vm.findClass RX5 = some m.cls := findClass_of_methodNamed B.named
  have hlocks := B.notSynchronized
  have hin : meth.name = "<init>" := (name_of_methodNamed B.named B.method).1
  subst hsz
  have hD := hD0.self (sz := s.heap.size)
  generalize hAe : va_A [(h0, .inr (5, [.null, .int z0, .int z1]))] s.heap.size = A at hD ⊢
  have hA : ∀ q : Nat, s.heap.size ≤ q → A q := fun q h => by rw [← hAe]; exact Or.inr h
  have hS : va_S A s.heap s.heap [] := va_S.rf
  have hoi3 := hts (.methodLink RX5 3 objectInit) (by decide +kernel)
  have hoin := hts (.instanceMethod objectInit) (by decide +kernel)
  have hoic := hts (.code objectInit ⟨#[0xb1]⟩ 1 none) (by decide +kernel)
  have harrJ := hts (.arrayClass .long) (by decide +kernel)
  have hin5 : ∀ w ∈ u_ws RX5 TX5 3, w ∈ wsX5_init := by decide +kernel
  have hfl9 := hts (.fieldLink RX5 9 "SwellBodies$Sheaf" "cells" "[J") (by decide +kernel)
  have hfl15 := hts (.fieldLink RX5 15 "SwellBodies$Sheaf" "lane" "I") (by decide +kernel)
  have hl := lv_entry ([.ref h0]) (n := 1) (Nat.le_of_ble_eq_true rfl)
  rw [lg_entry_eq]
  generalize (lg_sl ([.ref h0]) ++ List.replicate (1 - (lg_sl ([.ref h0])).length) Slot.unset).toArray = ls at hl ⊢
  have hl : lv_has ls 1 [(0, .ref h0)] := hl
  unfold fX5_init at hF
  refine lv_aload_n hx hb dX5_init_0 rfl (lv_at hl 0 rfl) ?_
  refine W.objInit hx hb hown hoi3 hoin hoic rfl (by rw [hml]; exact hl.1) rfl dX5_init_1 (Nat.le_of_ble_eq_true rfl) (Nat.le_of_ble_eq_true rfl) ?_
  refine W.eq (g2 := F0 m 4 ls []) rfl ?_
  refine lv_aload_n hx hb dX5_init_4 rfl (lv_at hl 0 rfl) ?_
  refine lv_bipush (v := 36) hx hb dX5_init_5 (by decide) ?_
  refine nw_J (N' := 36) hx hb harrJ hK hP hD hS hA (by decide) (by decide) (by decide) (Nat.le_of_ble_eq_true rfl) (Nat.le_of_ble_eq_true rfl) dX5_init_7 (fun q7 H hP hD hS => ?_)
  have hP : va_P (gD G) vwCl [(h0, .inr (5, [.null, .int z0, .int z1])), (q7, .inl (gJ G, 36, .inr (.inl (fun _ => 0))))] H := hP
  have hD : va_D A [(h0, .inr (5, [.null, .int z0, .int z1])), (q7, .inl (gJ G, 36, .inr (.inl (fun _ => 0))))] := hD
  refine W.widen (k := 1) (n := 36) (by omega) (by omega) ?_
  refine va_putF (ci := 5) (v := .ref q7) (ty := .array .long) (C := RX5) (T := TX5) (N := 3) hx hb hts hin5 tyX5 tyX5_ok nmX5 hown hK hP hD hS 0 rfl rfl 0 (by decide) hfl9 (fun _ h9 => h9) rfl hin rfl (by decide +kernel) rfl rfl (Nat.le_of_ble_eq_true rfl) dX5_init_9 (fun H locs hP hD hS => ?_)
  have hP : va_P (gD G) vwCl [(h0, .inr (5, [.ref q7, .int z0, .int z1])), (q7, .inl (gJ G, 36, .inr (.inl (fun _ => 0))))] H := hP
  have hD : va_D A [(h0, .inr (5, [.ref q7, .int z0, .int z1])), (q7, .inl (gJ G, 36, .inr (.inl (fun _ => 0))))] := hD
  refine lv_aload_n hx hb dX5_init_12 rfl (lv_at hl 0 rfl) ?_
  refine lv_iconst (v := (-1)) hx hb dX5_init_13 (by decide) ?_
  refine va_put (ci := 5) (v := .int (-1)) (ty := .int) (C := RX5) (T := TX5) (N := 3) hx hb hts hin5 tyX5 tyX5_ok nmX5 hown hK hP hD hS 0 rfl rfl 1 (by decide) hfl15 (fun _ h9 => h9) rfl (by decide +kernel) rfl rfl (Nat.le_of_ble_eq_true rfl) dX5_init_14 (fun H locs hP hD hS => ?_)
  have hP : va_P (gD G) vwCl [(h0, .inr (5, [.ref q7, .int (-1), .int z1])), (q7, .inl (gJ G, 36, .inr (.inl (fun _ => 0))))] H := hP
  have hD : va_D A [(h0, .inr (5, [.ref q7, .int (-1), .int z1])), (q7, .inl (gJ G, 36, .inr (.inl (fun _ => 0))))] := hD
  exact W.vret hx hb hr (fun t ht hW => ⟨⟨((-1), fun _ => 0), rfl, so_e hF, (fun i => [q7].getD i 0), qW_mk ht hP hK hW hD⟩, hS.F ht⟩) hS.2.2 dX5_init_17
def LX2_init_75 (n2 : Nat) (CT : Nat → Int32) (k101 : Int32 → Int32 → (Nat → Int32) → (Nat → Int32) → Option (Int32 × (Nat → Int32))) : Nat → Int32 → Int32 → Int32 → (Nat → Int32) → (Nat → Int32) → Option (Int32 × (Nat → Int32))
  | 0, _, _, _, _, _ => none
  | k + 1, a4, a5, mz0, x2, x3 =>
  (if a5 < a4 then (k101 a4 mz0 x2 x3) else (gd_in a5 4 (gd_in (a5 - 1) 4 (LX2_init_75 n2 CT k101 k a4 (a5 + (-1)) mz0 x2 (upd x3 a5.toNatClampNeg ((x3 a5.toNatClampNeg) - (x3 (a5 - 1).toNatClampNeg)))))))
def LX2_init_60 (n2 : Nat) (CT : Nat → Int32)  : Nat → Int32 → Int32 → (Nat → Int32) → (Nat → Int32) → Option (Int32 × (Nat → Int32))
  | 0, _, _, _, _ => none
  | k + 1, a4, mz0, x2, x3 =>
  (if mz0 < a4 then (gd_in 0 4 (gd_in 1 4 (gd_in 2 4 (gd_in 3 4 (some (mz0, upd (upd (upd (upd x2 (0 : Int32).toNatClampNeg (6 * (x3 (0 : Int32).toNatClampNeg))) (1 : Int32).toNatClampNeg (((6 * (x3 (1 : Int32).toNatClampNeg)) - (3 * (x3 (2 : Int32).toNatClampNeg))) + (2 * (x3 (3 : Int32).toNatClampNeg)))) (2 : Int32).toNatClampNeg ((3 * (x3 (2 : Int32).toNatClampNeg)) - (3 * (x3 (3 : Int32).toNatClampNeg)))) (3 : Int32).toNatClampNeg (x3 (3 : Int32).toNatClampNeg))))))) else (LX2_init_75 n2 CT (fun a4 mz0 x2 x3 => (LX2_init_60 n2 CT k (a4 + 1) mz0 x2 x3)) FU a4 mz0 mz0 x2 x3))
def JX2_init_57 (n2 : Nat) (CT : Nat → Int32)  (mz0 : Int32) (x2 : Nat → Int32) (x3 : Nat → Int32) : Option (Int32 × (Nat → Int32)) :=
  (LX2_init_60 n2 CT FU 1 mz0 x2 x3)
def LX2_init_27 (n2 : Nat) (CT : Nat → Int32)  : Nat → Int32 → Int32 → (Nat → Int32) → (Nat → Int32) → Option (Int32 × (Nat → Int32))
  | 0, _, _, _, _ => none
  | k + 1, a4, mz0, x2, x3 =>
  (if mz0 < a4 then (JX2_init_57 n2 CT mz0 x2 x3) else (if nI n2 ≤ a4 then (JX2_init_57 n2 CT mz0 x2 x3) else (gd_in a4 n2 (gd_in a4 4 (LX2_init_27 n2 CT k (a4 + 1) mz0 x2 (upd x3 a4.toNatClampNeg (CT a4.toNatClampNeg)))))))
def fX2_init (n2 : Nat) (z0 : Int32) (CT : Nat → Int32) (p1 : Int32) : Option (Int32 × (Nat → Int32)) :=
  (LX2_init_27 n2 CT FU 0 (if 3 < p1 then 3 else p1) (fun _ => 0) (fun _ => 0))
abbrev rX2_init : Room := { frames := 1, cells := 2, slots := 8, locals := 21 }
set_option maxHeartbeats 40000000 in
set_option maxRecDepth 100000 in
theorem kX2_init (l : Launch) (G : GT) (h0 g0 : Nat) (sz : Nat) (n2 : Nat) (z0 : Int32) (CT : Nat → Int32) (p1 : Int32) (res : Int32 × (Nat → Int32)) (hF : fX2_init n2 z0 CT p1 = some res) : Met l yX2_init wsX2_init rX2_init (va_Pc [.ref h0, .int p1, .ref g0] (pW G sz [(h0, .inr (2, [.null, .int z0])), (g0, .inl (gI G, n2, .inl CT))])) (va_Qv (fun (u : Int32 × (Nat → Int32)) => u = res) (fun u t => ∃ nu : Nat → Nat, qW G (va_A [(h0, .inr (2, [.null, .int z0])), (g0, .inl (gI G, n2, .inl CT))] sz) [(h0, .inr (2, [.ref (nu 0), .int u.1])), (g0, .inl (gI G, n2, .inl CT)), ((nu 0), .inl (gI G, 4, .inl u.2))] t) (va_A [(h0, .inr (2, [.null, .int z0])), (g0, .inl (gI G, n2, .inl CT))] sz)) 2 8 (va_A [(h0, .inr (2, [.null, .int z0])), (g0, .inl (gI G, n2, .inl CT))] sz) := by
  refine Met.ofW (cc := cX2_init) (maxL := 6) (ret := none) (by decide) rfl ?_
  intro p e s m args below meth c s₁ B hml hv
  obtain ⟨rfl, ⟨hsz, hP, hK, hD0⟩⟩ := hv
  have hx := B.exec
  have hb := B.bytes
  have hr := B.returns
  have hts := atoms_spec (ws := wsX2_init) B.pre
  have hown : s.vm.findClass RX2 = some m.cls := findClass_of_methodNamed B.named
  have hlocks := B.notSynchronized
  have hin : meth.name = "<init>" := (name_of_methodNamed B.named B.method).1
  subst hsz
  have hD := hD0.self (sz := s.heap.size)
  generalize hAe : va_A [(h0, .inr (2, [.null, .int z0])), (g0, .inl (gI G, n2, .inl CT))] s.heap.size = A at hD ⊢
  have hA : ∀ q : Nat, s.heap.size ≤ q → A q := fun q h => by rw [← hAe]; exact Or.inr h
  have hS : va_S A s.heap s.heap [] := va_S.rf
  have hoi1 := hts (.methodLink RX2 1 objectInit) (by decide +kernel)
  have hoin := hts (.instanceMethod objectInit) (by decide +kernel)
  have hoic := hts (.code objectInit ⟨#[0xb1]⟩ 1 none) (by decide +kernel)
  have harrI := hts (.arrayClass .int) (by decide +kernel)
  have hin2 : ∀ w ∈ u_ws RX2 TX2 2, w ∈ wsX2_init := by decide +kernel
  have hfl7 := hts (.fieldLink RX2 7 "SwellBodies$Growth" "numbers" "[I") (by decide +kernel)
  have hm13 := hts (.methodLink RX2 13 Lib.Math.min.name) (by decide +kernel)
  have hmsmin := hts (.static Lib.Math.min.name) (by decide +kernel)
  have hmi := hts (.initialized "java/lang/Math") (by decide +kernel)
  have hmcmin := hts (.code Lib.Math.min.name Lib.Math.min.code 2 (some .int)) (by decide +kernel)
  have hfl19 := hts (.fieldLink RX2 19 "SwellBodies$Growth" "degree" "I") (by decide +kernel)
  have hl := lv_entry ([.ref h0, .int p1, .ref g0]) (n := 6) (Nat.le_of_ble_eq_true rfl)
  rw [lg_entry_eq]
  generalize (lg_sl ([.ref h0, .int p1, .ref g0]) ++ List.replicate (6 - (lg_sl ([.ref h0, .int p1, .ref g0])).length) Slot.unset).toArray = ls at hl ⊢
  have hl : lv_has ls 6 [(0, .ref h0), (1, .int p1), (2, .ref g0)] := hl
  have hL75 : ∀ (k101 : Int32 → Int32 → (Nat → Int32) → (Nat → Int32) → Option (Int32 × (Nat → Int32))), (∀ (q6 : Nat) (q21 : Nat) (a4 : Int32) (mz0 : Int32) (x2 : Nat → Int32) (x3 : Nat → Int32) (H : Heap) (locs : List Loc) (ls : Array Slot), k101 a4 mz0 x2 x3 = some res → va_P (gD G) vwCl [(h0, .inr (2, [.ref q6, .int mz0])), (g0, .inl (gI G, n2, .inl CT)), (q6, .inl (gI G, 4, .inl x2)), (q21, .inl (gI G, 4, .inl x3))] H → va_D A [(h0, .inr (2, [.ref q6, .int mz0])), (g0, .inl (gI G, n2, .inl CT)), (q6, .inl (gI G, 4, .inl x2)), (q21, .inl (gI G, 4, .inl x3))] → va_S A s.heap H locs → lv_has ls 6 [(0, .ref h0), (3, .ref q21), (4, .int a4)] → W p l e (headSpec wsX2_init rX2_init).room s m ([.ref h0, .int p1, .ref g0] : List Value).toArray below meth c H locs 2 8 (MQ below (va_Qv (fun (u : Int32 × (Nat → Int32)) => u = res) (fun u t => ∃ nu : Nat → Nat, qW G A [(h0, .inr (2, [.ref (nu 0), .int u.1])), (g0, .inl (gI G, n2, .inl CT)), ((nu 0), .inl (gI G, 4, .inl u.2))] t) A) ([.ref h0, .int p1, .ref g0] : List Value).toArray s 2 8 A) (F0 m 101 ls [])) → ∀ (k : Nat), ∀ (q6 : Nat) (q21 : Nat) (a4 : Int32) (a5 : Int32) (mz0 : Int32) (x2 : Nat → Int32) (x3 : Nat → Int32) (H : Heap) (locs : List Loc) (ls : Array Slot), LX2_init_75 n2 CT k101 k a4 a5 mz0 x2 x3 = some res → va_P (gD G) vwCl [(h0, .inr (2, [.ref q6, .int mz0])), (g0, .inl (gI G, n2, .inl CT)), (q6, .inl (gI G, 4, .inl x2)), (q21, .inl (gI G, 4, .inl x3))] H → va_D A [(h0, .inr (2, [.ref q6, .int mz0])), (g0, .inl (gI G, n2, .inl CT)), (q6, .inl (gI G, 4, .inl x2)), (q21, .inl (gI G, 4, .inl x3))] → va_S A s.heap H locs → lv_has ls 6 [(0, .ref h0), (3, .ref q21), (4, .int a4), (5, .int a5)] → W p l e (headSpec wsX2_init rX2_init).room s m ([.ref h0, .int p1, .ref g0] : List Value).toArray below meth c H locs 2 8 (MQ below (va_Qv (fun (u : Int32 × (Nat → Int32)) => u = res) (fun u t => ∃ nu : Nat → Nat, qW G A [(h0, .inr (2, [.ref (nu 0), .int u.1])), (g0, .inl (gI G, n2, .inl CT)), ((nu 0), .inl (gI G, 4, .inl u.2))] t) A) ([.ref h0, .int p1, .ref g0] : List Value).toArray s 2 8 A) (F0 m 75 ls []) := by
    intro k101 hk101
    intro k
    induction k with
    | zero =>
      intro q6 q21 a4 a5 mz0 x2 x3 H locs ls hF hP hD hS hl
      rw [LX2_init_75] at hF
      cases hF
    | succ k ih =>
      intro q6 q21 a4 a5 mz0 x2 x3 H locs ls hF hP hD hS hl
      rw [LX2_init_75] at hF
      refine lv_iload hx hb dX2_init_75 (lv_at hl 3 rfl) ?_
      refine lv_iload hx hb dX2_init_77 (lv_at hl 2 rfl) ?_
      refine lv_icmp_lt (tgt := 101) hx hb dX2_init_79 (by decide) (fun c_7 => ?_) (fun c_7 => ?_)
      · replace hF := it_p c_7 hF
        exact hk101 q6 q21 a4 mz0 x2 x3 _ _ _ hF hP hD hS (lv_sub hl [0, 1, 2] rfl)
      · replace hF := it_n c_7 hF
        refine lv_aload_n hx hb dX2_init_82 rfl (lv_at hl 1 rfl) ?_
        refine lv_iload hx hb dX2_init_83 (lv_at hl 3 rfl) ?_
        refine lv_dup2_11 hx hb dX2_init_85 rfl rfl ?_
        obtain ⟨hi_8, hF⟩ := gd_in_s hF
        refine va_iald hx hb hK hP 3 0 rfl rfl hi_8 dX2_init_86 ?_
        refine lv_aload_n hx hb dX2_init_87 rfl (lv_at hl 1 rfl) ?_
        refine lv_iload hx hb dX2_init_88 (lv_at hl 3 rfl) ?_
        refine lv_iconst (v := 1) hx hb dX2_init_90 (by decide) ?_
        refine lv_isub hx hb dX2_init_91 ?_
        obtain ⟨hi_9, hF⟩ := gd_in_s hF
        refine va_iald hx hb hK hP 3 0 rfl rfl hi_9 dX2_init_92 ?_
        refine lv_isub hx hb dX2_init_93 ?_
        refine va_iast hx hb hK hP hD hS 3 0 rfl rfl hi_8 dX2_init_94 (fun H locs hP hD hS => ?_)
        have hP : va_P (gD G) vwCl [(h0, .inr (2, [.ref q6, .int mz0])), (g0, .inl (gI G, n2, .inl CT)), (q6, .inl (gI G, 4, .inl x2)), (q21, .inl (gI G, 4, .inl (upd x3 a5.toNatClampNeg ((x3 a5.toNatClampNeg) - (x3 (a5 - 1).toNatClampNeg)))))] H := hP
        have hD : va_D A [(h0, .inr (2, [.ref q6, .int mz0])), (g0, .inl (gI G, n2, .inl CT)), (q6, .inl (gI G, 4, .inl x2)), (q21, .inl (gI G, 4, .inl (upd x3 a5.toNatClampNeg ((x3 a5.toNatClampNeg) - (x3 (a5 - 1).toNatClampNeg)))))] := hD
        refine lv_iinc (v := a5 + (-1)) (lv' := [(5, .int (a5 + (-1))), (0, .ref h0), (3, .ref q21), (4, .int a4)]) hx hb dX2_init_95 hl (k := 3) rfl rfl (by decide) rfl (fun ls hl => ?_)
        refine lv_goto (tgt := 75) hx hb dX2_init_98 (by decide) ?_
        exact ih q6 q21 a4 (a5 + (-1)) mz0 x2 (upd x3 a5.toNatClampNeg ((x3 a5.toNatClampNeg) - (x3 (a5 - 1).toNatClampNeg))) _ _ _ hF hP hD hS (lv_sub hl [1, 2, 3, 0] rfl)
  have hL60 : ∀ (k : Nat), ∀ (q6 : Nat) (q21 : Nat) (a4 : Int32) (mz0 : Int32) (x2 : Nat → Int32) (x3 : Nat → Int32) (H : Heap) (locs : List Loc) (ls : Array Slot), LX2_init_60 n2 CT k a4 mz0 x2 x3 = some res → va_P (gD G) vwCl [(h0, .inr (2, [.ref q6, .int mz0])), (g0, .inl (gI G, n2, .inl CT)), (q6, .inl (gI G, 4, .inl x2)), (q21, .inl (gI G, 4, .inl x3))] H → va_D A [(h0, .inr (2, [.ref q6, .int mz0])), (g0, .inl (gI G, n2, .inl CT)), (q6, .inl (gI G, 4, .inl x2)), (q21, .inl (gI G, 4, .inl x3))] → va_S A s.heap H locs → lv_has ls 6 [(0, .ref h0), (3, .ref q21), (4, .int a4)] → W p l e (headSpec wsX2_init rX2_init).room s m ([.ref h0, .int p1, .ref g0] : List Value).toArray below meth c H locs 2 8 (MQ below (va_Qv (fun (u : Int32 × (Nat → Int32)) => u = res) (fun u t => ∃ nu : Nat → Nat, qW G A [(h0, .inr (2, [.ref (nu 0), .int u.1])), (g0, .inl (gI G, n2, .inl CT)), ((nu 0), .inl (gI G, 4, .inl u.2))] t) A) ([.ref h0, .int p1, .ref g0] : List Value).toArray s 2 8 A) (F0 m 60 ls []) := by
    intro k
    induction k with
    | zero =>
      intro q6 q21 a4 mz0 x2 x3 H locs ls hF hP hD hS hl
      rw [LX2_init_60] at hF
      cases hF
    | succ k ih =>
      intro q6 q21 a4 mz0 x2 x3 H locs ls hF hP hD hS hl
      rw [LX2_init_60] at hF
      refine lv_iload hx hb dX2_init_60 (lv_at hl 2 rfl) ?_
      refine lv_aload_n hx hb dX2_init_62 rfl (lv_at hl 0 rfl) ?_
      refine va_get (ci := 2) (v := .int mz0) (C := RX2) (T := TX2) (N := 2) hx hb hts hin2 hown hK hP 0 rfl rfl 1 (by decide) hfl19 (fun _ h9 => h9) rfl dX2_init_63 ?_
      refine lv_icmp_gt (tgt := 107) hx hb dX2_init_66 (by decide) (fun c_2 => ?_) (fun c_2 => ?_)
      · replace hF := it_p c_2 hF
        refine lv_aload_n hx hb dX2_init_107 rfl (lv_at hl 0 rfl) ?_
        refine va_get (ci := 2) (v := .ref q6) (C := RX2) (T := TX2) (N := 2) hx hb hts hin2 hown hK hP 0 rfl rfl 0 (by decide) hfl7 (fun _ h9 => h9) rfl dX2_init_108 ?_
        refine lv_iconst (v := 0) hx hb dX2_init_111 (by decide) ?_
        refine lv_bipush (v := 6) hx hb dX2_init_112 (by decide) ?_
        refine lv_aload_n hx hb dX2_init_114 rfl (lv_at hl 1 rfl) ?_
        refine lv_iconst (v := 0) hx hb dX2_init_115 (by decide) ?_
        obtain ⟨hi_3, hF⟩ := gd_in_s hF
        refine va_iald hx hb hK hP 3 0 rfl rfl hi_3 dX2_init_116 ?_
        refine lv_imul hx hb dX2_init_117 ?_
        refine va_iast hx hb hK hP hD hS 2 0 rfl rfl hi_3 dX2_init_118 (fun H locs hP hD hS => ?_)
        have hP : va_P (gD G) vwCl [(h0, .inr (2, [.ref q6, .int mz0])), (g0, .inl (gI G, n2, .inl CT)), (q6, .inl (gI G, 4, .inl (upd x2 (0 : Int32).toNatClampNeg (6 * (x3 (0 : Int32).toNatClampNeg))))), (q21, .inl (gI G, 4, .inl x3))] H := hP
        have hD : va_D A [(h0, .inr (2, [.ref q6, .int mz0])), (g0, .inl (gI G, n2, .inl CT)), (q6, .inl (gI G, 4, .inl (upd x2 (0 : Int32).toNatClampNeg (6 * (x3 (0 : Int32).toNatClampNeg))))), (q21, .inl (gI G, 4, .inl x3))] := hD
        refine lv_aload_n hx hb dX2_init_119 rfl (lv_at hl 0 rfl) ?_
        refine va_get (ci := 2) (v := .ref q6) (C := RX2) (T := TX2) (N := 2) hx hb hts hin2 hown hK hP 0 rfl rfl 0 (by decide) hfl7 (fun _ h9 => h9) rfl dX2_init_120 ?_
        refine lv_iconst (v := 1) hx hb dX2_init_123 (by decide) ?_
        refine lv_bipush (v := 6) hx hb dX2_init_124 (by decide) ?_
        refine lv_aload_n hx hb dX2_init_126 rfl (lv_at hl 1 rfl) ?_
        refine lv_iconst (v := 1) hx hb dX2_init_127 (by decide) ?_
        obtain ⟨hi_4, hF⟩ := gd_in_s hF
        refine va_iald hx hb hK hP 3 0 rfl rfl hi_4 dX2_init_128 ?_
        refine lv_imul hx hb dX2_init_129 ?_
        refine lv_iconst (v := 3) hx hb dX2_init_130 (by decide) ?_
        refine lv_aload_n hx hb dX2_init_131 rfl (lv_at hl 1 rfl) ?_
        refine lv_iconst (v := 2) hx hb dX2_init_132 (by decide) ?_
        obtain ⟨hi_5, hF⟩ := gd_in_s hF
        refine va_iald hx hb hK hP 3 0 rfl rfl hi_5 dX2_init_133 ?_
        refine lv_imul hx hb dX2_init_134 ?_
        refine lv_isub hx hb dX2_init_135 ?_
        refine lv_iconst (v := 2) hx hb dX2_init_136 (by decide) ?_
        refine lv_aload_n hx hb dX2_init_137 rfl (lv_at hl 1 rfl) ?_
        refine lv_iconst (v := 3) hx hb dX2_init_138 (by decide) ?_
        obtain ⟨hi_6, hF⟩ := gd_in_s hF
        refine va_iald hx hb hK hP 3 0 rfl rfl hi_6 dX2_init_139 ?_
        refine lv_imul hx hb dX2_init_140 ?_
        refine lv_iadd hx hb dX2_init_141 ?_
        refine va_iast hx hb hK hP hD hS 2 0 rfl rfl hi_4 dX2_init_142 (fun H locs hP hD hS => ?_)
        have hP : va_P (gD G) vwCl [(h0, .inr (2, [.ref q6, .int mz0])), (g0, .inl (gI G, n2, .inl CT)), (q6, .inl (gI G, 4, .inl (upd (upd x2 (0 : Int32).toNatClampNeg (6 * (x3 (0 : Int32).toNatClampNeg))) (1 : Int32).toNatClampNeg (((6 * (x3 (1 : Int32).toNatClampNeg)) - (3 * (x3 (2 : Int32).toNatClampNeg))) + (2 * (x3 (3 : Int32).toNatClampNeg)))))), (q21, .inl (gI G, 4, .inl x3))] H := hP
        have hD : va_D A [(h0, .inr (2, [.ref q6, .int mz0])), (g0, .inl (gI G, n2, .inl CT)), (q6, .inl (gI G, 4, .inl (upd (upd x2 (0 : Int32).toNatClampNeg (6 * (x3 (0 : Int32).toNatClampNeg))) (1 : Int32).toNatClampNeg (((6 * (x3 (1 : Int32).toNatClampNeg)) - (3 * (x3 (2 : Int32).toNatClampNeg))) + (2 * (x3 (3 : Int32).toNatClampNeg)))))), (q21, .inl (gI G, 4, .inl x3))] := hD
        refine lv_aload_n hx hb dX2_init_143 rfl (lv_at hl 0 rfl) ?_
        refine va_get (ci := 2) (v := .ref q6) (C := RX2) (T := TX2) (N := 2) hx hb hts hin2 hown hK hP 0 rfl rfl 0 (by decide) hfl7 (fun _ h9 => h9) rfl dX2_init_144 ?_
        refine lv_iconst (v := 2) hx hb dX2_init_147 (by decide) ?_
        refine lv_iconst (v := 3) hx hb dX2_init_148 (by decide) ?_
        refine lv_aload_n hx hb dX2_init_149 rfl (lv_at hl 1 rfl) ?_
        refine lv_iconst (v := 2) hx hb dX2_init_150 (by decide) ?_
        refine va_iald hx hb hK hP 3 0 rfl rfl hi_5 dX2_init_151 ?_
        refine lv_imul hx hb dX2_init_152 ?_
        refine lv_iconst (v := 3) hx hb dX2_init_153 (by decide) ?_
        refine lv_aload_n hx hb dX2_init_154 rfl (lv_at hl 1 rfl) ?_
        refine lv_iconst (v := 3) hx hb dX2_init_155 (by decide) ?_
        refine va_iald hx hb hK hP 3 0 rfl rfl hi_6 dX2_init_156 ?_
        refine lv_imul hx hb dX2_init_157 ?_
        refine lv_isub hx hb dX2_init_158 ?_
        refine va_iast hx hb hK hP hD hS 2 0 rfl rfl hi_5 dX2_init_159 (fun H locs hP hD hS => ?_)
        have hP : va_P (gD G) vwCl [(h0, .inr (2, [.ref q6, .int mz0])), (g0, .inl (gI G, n2, .inl CT)), (q6, .inl (gI G, 4, .inl (upd (upd (upd x2 (0 : Int32).toNatClampNeg (6 * (x3 (0 : Int32).toNatClampNeg))) (1 : Int32).toNatClampNeg (((6 * (x3 (1 : Int32).toNatClampNeg)) - (3 * (x3 (2 : Int32).toNatClampNeg))) + (2 * (x3 (3 : Int32).toNatClampNeg)))) (2 : Int32).toNatClampNeg ((3 * (x3 (2 : Int32).toNatClampNeg)) - (3 * (x3 (3 : Int32).toNatClampNeg)))))), (q21, .inl (gI G, 4, .inl x3))] H := hP
        have hD : va_D A [(h0, .inr (2, [.ref q6, .int mz0])), (g0, .inl (gI G, n2, .inl CT)), (q6, .inl (gI G, 4, .inl (upd (upd (upd x2 (0 : Int32).toNatClampNeg (6 * (x3 (0 : Int32).toNatClampNeg))) (1 : Int32).toNatClampNeg (((6 * (x3 (1 : Int32).toNatClampNeg)) - (3 * (x3 (2 : Int32).toNatClampNeg))) + (2 * (x3 (3 : Int32).toNatClampNeg)))) (2 : Int32).toNatClampNeg ((3 * (x3 (2 : Int32).toNatClampNeg)) - (3 * (x3 (3 : Int32).toNatClampNeg)))))), (q21, .inl (gI G, 4, .inl x3))] := hD
        refine lv_aload_n hx hb dX2_init_160 rfl (lv_at hl 0 rfl) ?_
        refine va_get (ci := 2) (v := .ref q6) (C := RX2) (T := TX2) (N := 2) hx hb hts hin2 hown hK hP 0 rfl rfl 0 (by decide) hfl7 (fun _ h9 => h9) rfl dX2_init_161 ?_
        refine lv_iconst (v := 3) hx hb dX2_init_164 (by decide) ?_
        refine lv_aload_n hx hb dX2_init_165 rfl (lv_at hl 1 rfl) ?_
        refine lv_iconst (v := 3) hx hb dX2_init_166 (by decide) ?_
        refine va_iald hx hb hK hP 3 0 rfl rfl hi_6 dX2_init_167 ?_
        refine va_iast hx hb hK hP hD hS 2 0 rfl rfl hi_6 dX2_init_168 (fun H locs hP hD hS => ?_)
        have hP : va_P (gD G) vwCl [(h0, .inr (2, [.ref q6, .int mz0])), (g0, .inl (gI G, n2, .inl CT)), (q6, .inl (gI G, 4, .inl (upd (upd (upd (upd x2 (0 : Int32).toNatClampNeg (6 * (x3 (0 : Int32).toNatClampNeg))) (1 : Int32).toNatClampNeg (((6 * (x3 (1 : Int32).toNatClampNeg)) - (3 * (x3 (2 : Int32).toNatClampNeg))) + (2 * (x3 (3 : Int32).toNatClampNeg)))) (2 : Int32).toNatClampNeg ((3 * (x3 (2 : Int32).toNatClampNeg)) - (3 * (x3 (3 : Int32).toNatClampNeg)))) (3 : Int32).toNatClampNeg (x3 (3 : Int32).toNatClampNeg)))), (q21, .inl (gI G, 4, .inl x3))] H := hP
        have hD : va_D A [(h0, .inr (2, [.ref q6, .int mz0])), (g0, .inl (gI G, n2, .inl CT)), (q6, .inl (gI G, 4, .inl (upd (upd (upd (upd x2 (0 : Int32).toNatClampNeg (6 * (x3 (0 : Int32).toNatClampNeg))) (1 : Int32).toNatClampNeg (((6 * (x3 (1 : Int32).toNatClampNeg)) - (3 * (x3 (2 : Int32).toNatClampNeg))) + (2 * (x3 (3 : Int32).toNatClampNeg)))) (2 : Int32).toNatClampNeg ((3 * (x3 (2 : Int32).toNatClampNeg)) - (3 * (x3 (3 : Int32).toNatClampNeg)))) (3 : Int32).toNatClampNeg (x3 (3 : Int32).toNatClampNeg)))), (q21, .inl (gI G, 4, .inl x3))] := hD
        have hP : va_P (gD G) vwCl [(h0, .inr (2, [.ref q6, .int mz0])), (g0, .inl (gI G, n2, .inl CT)), (q6, .inl (gI G, 4, .inl (upd (upd (upd (upd x2 (0 : Int32).toNatClampNeg (6 * (x3 (0 : Int32).toNatClampNeg))) (1 : Int32).toNatClampNeg (((6 * (x3 (1 : Int32).toNatClampNeg)) - (3 * (x3 (2 : Int32).toNatClampNeg))) + (2 * (x3 (3 : Int32).toNatClampNeg)))) (2 : Int32).toNatClampNeg ((3 * (x3 (2 : Int32).toNatClampNeg)) - (3 * (x3 (3 : Int32).toNatClampNeg)))) (3 : Int32).toNatClampNeg (x3 (3 : Int32).toNatClampNeg))))] H := hP.sub [0, 1, 2] rfl
        have hD : va_D A [(h0, .inr (2, [.ref q6, .int mz0])), (g0, .inl (gI G, n2, .inl CT)), (q6, .inl (gI G, 4, .inl (upd (upd (upd (upd x2 (0 : Int32).toNatClampNeg (6 * (x3 (0 : Int32).toNatClampNeg))) (1 : Int32).toNatClampNeg (((6 * (x3 (1 : Int32).toNatClampNeg)) - (3 * (x3 (2 : Int32).toNatClampNeg))) + (2 * (x3 (3 : Int32).toNatClampNeg)))) (2 : Int32).toNatClampNeg ((3 * (x3 (2 : Int32).toNatClampNeg)) - (3 * (x3 (3 : Int32).toNatClampNeg)))) (3 : Int32).toNatClampNeg (x3 (3 : Int32).toNatClampNeg))))] := hD.sub [0, 1, 2] (by decide) rfl
        exact W.vret hx hb hr (fun t ht hW => ⟨⟨(mz0, upd (upd (upd (upd x2 (0 : Int32).toNatClampNeg (6 * (x3 (0 : Int32).toNatClampNeg))) (1 : Int32).toNatClampNeg (((6 * (x3 (1 : Int32).toNatClampNeg)) - (3 * (x3 (2 : Int32).toNatClampNeg))) + (2 * (x3 (3 : Int32).toNatClampNeg)))) (2 : Int32).toNatClampNeg ((3 * (x3 (2 : Int32).toNatClampNeg)) - (3 * (x3 (3 : Int32).toNatClampNeg)))) (3 : Int32).toNatClampNeg (x3 (3 : Int32).toNatClampNeg)), rfl, so_e hF, (fun i => [q6].getD i 0), qW_mk ht hP hK hW hD⟩, hS.F ht⟩) hS.2.2 dX2_init_169
      · replace hF := it_n c_2 hF
        refine lv_aload_n hx hb dX2_init_69 rfl (lv_at hl 0 rfl) ?_
        refine va_get (ci := 2) (v := .int mz0) (C := RX2) (T := TX2) (N := 2) hx hb hts hin2 hown hK hP 0 rfl rfl 1 (by decide) hfl19 (fun _ h9 => h9) rfl dX2_init_70 ?_
        refine lv_istore (lv' := [(5, .int mz0), (0, .ref h0), (3, .ref q21), (4, .int a4)]) hx hb dX2_init_73 hl (by decide) rfl (fun ls hl => ?_)
        refine hL75 _ ?_ FU q6 q21 a4 mz0 mz0 x2 x3 _ _ _ hF hP hD hS (lv_sub hl [1, 2, 3, 0] rfl)
        · intro q6 q21 a4 mz0 x2 x3 H locs ls hF hP hD hS hl
          refine lv_iinc (v := a4 + 1) (lv' := [(4, .int (a4 + 1)), (0, .ref h0), (3, .ref q21)]) hx hb dX2_init_101 hl (k := 2) rfl rfl (by decide) rfl (fun ls hl => ?_)
          refine lv_goto (tgt := 60) hx hb dX2_init_104 (by decide) ?_
          exact ih q6 q21 (a4 + 1) mz0 x2 x3 _ _ _ hF hP hD hS (lv_sub hl [1, 2, 0] rfl)
  have hJ57 : ∀ (q6 : Nat) (q21 : Nat) (mz0 : Int32) (x2 : Nat → Int32) (x3 : Nat → Int32) (H : Heap) (locs : List Loc) (ls : Array Slot), JX2_init_57 n2 CT mz0 x2 x3 = some res → va_P (gD G) vwCl [(h0, .inr (2, [.ref q6, .int mz0])), (g0, .inl (gI G, n2, .inl CT)), (q6, .inl (gI G, 4, .inl x2)), (q21, .inl (gI G, 4, .inl x3))] H → va_D A [(h0, .inr (2, [.ref q6, .int mz0])), (g0, .inl (gI G, n2, .inl CT)), (q6, .inl (gI G, 4, .inl x2)), (q21, .inl (gI G, 4, .inl x3))] → va_S A s.heap H locs → lv_has ls 6 [(0, .ref h0), (3, .ref q21)] → W p l e (headSpec wsX2_init rX2_init).room s m ([.ref h0, .int p1, .ref g0] : List Value).toArray below meth c H locs 2 8 (MQ below (va_Qv (fun (u : Int32 × (Nat → Int32)) => u = res) (fun u t => ∃ nu : Nat → Nat, qW G A [(h0, .inr (2, [.ref (nu 0), .int u.1])), (g0, .inl (gI G, n2, .inl CT)), ((nu 0), .inl (gI G, 4, .inl u.2))] t) A) ([.ref h0, .int p1, .ref g0] : List Value).toArray s 2 8 A) (F0 m 57 ls []) := by
    intro q6 q21 mz0 x2 x3 H locs ls hF hP hD hS hl
    unfold JX2_init_57 at hF
    refine lv_iconst (v := 1) hx hb dX2_init_57 (by decide) ?_
    refine lv_istore (lv' := [(4, .int 1), (0, .ref h0), (3, .ref q21)]) hx hb dX2_init_58 hl (by decide) rfl (fun ls hl => ?_)
    exact hL60 FU q6 q21 1 mz0 x2 x3 _ _ _ hF hP hD hS (lv_sub hl [1, 2, 0] rfl)
  have hL27 : ∀ (k : Nat), ∀ (q6 : Nat) (q21 : Nat) (a4 : Int32) (mz0 : Int32) (x2 : Nat → Int32) (x3 : Nat → Int32) (H : Heap) (locs : List Loc) (ls : Array Slot), LX2_init_27 n2 CT k a4 mz0 x2 x3 = some res → va_P (gD G) vwCl [(h0, .inr (2, [.ref q6, .int mz0])), (g0, .inl (gI G, n2, .inl CT)), (q6, .inl (gI G, 4, .inl x2)), (q21, .inl (gI G, 4, .inl x3))] H → va_D A [(h0, .inr (2, [.ref q6, .int mz0])), (g0, .inl (gI G, n2, .inl CT)), (q6, .inl (gI G, 4, .inl x2)), (q21, .inl (gI G, 4, .inl x3))] → va_S A s.heap H locs → lv_has ls 6 [(0, .ref h0), (2, .ref g0), (3, .ref q21), (4, .int a4)] → W p l e (headSpec wsX2_init rX2_init).room s m ([.ref h0, .int p1, .ref g0] : List Value).toArray below meth c H locs 2 8 (MQ below (va_Qv (fun (u : Int32 × (Nat → Int32)) => u = res) (fun u t => ∃ nu : Nat → Nat, qW G A [(h0, .inr (2, [.ref (nu 0), .int u.1])), (g0, .inl (gI G, n2, .inl CT)), ((nu 0), .inl (gI G, 4, .inl u.2))] t) A) ([.ref h0, .int p1, .ref g0] : List Value).toArray s 2 8 A) (F0 m 27 ls []) := by
    intro k
    induction k with
    | zero =>
      intro q6 q21 a4 mz0 x2 x3 H locs ls hF hP hD hS hl
      rw [LX2_init_27] at hF
      cases hF
    | succ k ih =>
      intro q6 q21 a4 mz0 x2 x3 H locs ls hF hP hD hS hl
      rw [LX2_init_27] at hF
      refine lv_iload hx hb dX2_init_27 (lv_at hl 3 rfl) ?_
      refine lv_aload_n hx hb dX2_init_29 rfl (lv_at hl 0 rfl) ?_
      refine va_get (ci := 2) (v := .int mz0) (C := RX2) (T := TX2) (N := 2) hx hb hts hin2 hown hK hP 0 rfl rfl 1 (by decide) hfl19 (fun _ h9 => h9) rfl dX2_init_30 ?_
      refine lv_icmp_gt (tgt := 57) hx hb dX2_init_33 (by decide) (fun c_1 => ?_) (fun c_1 => ?_)
      · replace hF := it_p c_1 hF
        exact hJ57 q6 q21 mz0 x2 x3 _ _ _ hF hP hD hS (lv_sub hl [0, 2] rfl)
      · replace hF := it_n c_1 hF
        refine lv_iload hx hb dX2_init_36 (lv_at hl 3 rfl) ?_
        refine lv_aload_n hx hb dX2_init_38 rfl (lv_at hl 1 rfl) ?_
        refine va_alen (v := nI n2) hx hb hK hP 1 0 rfl rfl rfl dX2_init_39 ?_
        refine lv_icmp_ge (tgt := 57) hx hb dX2_init_40 (by decide) (fun c_10 => ?_) (fun c_10 => ?_)
        · replace hF := it_p c_10 hF
          exact hJ57 q6 q21 mz0 x2 x3 _ _ _ hF hP hD hS (lv_sub hl [0, 2] rfl)
        · replace hF := it_n c_10 hF
          refine lv_aload_n hx hb dX2_init_43 rfl (lv_at hl 2 rfl) ?_
          refine lv_iload hx hb dX2_init_44 (lv_at hl 3 rfl) ?_
          refine lv_aload_n hx hb dX2_init_46 rfl (lv_at hl 1 rfl) ?_
          refine lv_iload hx hb dX2_init_47 (lv_at hl 3 rfl) ?_
          obtain ⟨hi_11, hF⟩ := gd_in_s hF
          refine va_iald hx hb hK hP 1 0 rfl rfl hi_11 dX2_init_49 ?_
          obtain ⟨hi_12, hF⟩ := gd_in_s hF
          refine va_iast hx hb hK hP hD hS 3 0 rfl rfl hi_12 dX2_init_50 (fun H locs hP hD hS => ?_)
          have hP : va_P (gD G) vwCl [(h0, .inr (2, [.ref q6, .int mz0])), (g0, .inl (gI G, n2, .inl CT)), (q6, .inl (gI G, 4, .inl x2)), (q21, .inl (gI G, 4, .inl (upd x3 a4.toNatClampNeg (CT a4.toNatClampNeg))))] H := hP
          have hD : va_D A [(h0, .inr (2, [.ref q6, .int mz0])), (g0, .inl (gI G, n2, .inl CT)), (q6, .inl (gI G, 4, .inl x2)), (q21, .inl (gI G, 4, .inl (upd x3 a4.toNatClampNeg (CT a4.toNatClampNeg))))] := hD
          refine lv_iinc (v := a4 + 1) (lv' := [(4, .int (a4 + 1)), (0, .ref h0), (2, .ref g0), (3, .ref q21)]) hx hb dX2_init_51 hl (k := 3) rfl rfl (by decide) rfl (fun ls hl => ?_)
          refine lv_goto (tgt := 27) hx hb dX2_init_54 (by decide) ?_
          exact ih q6 q21 (a4 + 1) mz0 x2 (upd x3 a4.toNatClampNeg (CT a4.toNatClampNeg)) _ _ _ hF hP hD hS (lv_sub hl [1, 2, 3, 0] rfl)
  unfold fX2_init at hF
  refine lv_aload_n hx hb dX2_init_0 rfl (lv_at hl 0 rfl) ?_
  refine W.objInit hx hb hown hoi1 hoin hoic rfl (by rw [hml]; exact hl.1) rfl dX2_init_1 (Nat.le_of_ble_eq_true rfl) (Nat.le_of_ble_eq_true rfl) ?_
  refine W.eq (g2 := F0 m 4 ls []) rfl ?_
  refine lv_aload_n hx hb dX2_init_4 rfl (lv_at hl 0 rfl) ?_
  refine lv_iconst (v := 4) hx hb dX2_init_5 (by decide) ?_
  refine nw_I (N' := 4) hx hb harrI hK hP hD hS hA (by decide) (by decide) (by decide) (Nat.le_of_ble_eq_true rfl) (Nat.le_of_ble_eq_true rfl) dX2_init_6 (fun q6 H hP hD hS => ?_)
  have hP : va_P (gD G) vwCl [(h0, .inr (2, [.null, .int z0])), (g0, .inl (gI G, n2, .inl CT)), (q6, .inl (gI G, 4, .inl (fun _ => 0)))] H := hP
  have hD : va_D A [(h0, .inr (2, [.null, .int z0])), (g0, .inl (gI G, n2, .inl CT)), (q6, .inl (gI G, 4, .inl (fun _ => 0)))] := hD
  refine W.widen (k := 1) (n := 4) (by omega) (by omega) ?_
  refine va_putF (ci := 2) (v := .ref q6) (ty := .array .int) (C := RX2) (T := TX2) (N := 2) hx hb hts hin2 tyX2 tyX2_ok nmX2 hown hK hP hD hS 0 rfl rfl 0 (by decide) hfl7 (fun _ h9 => h9) rfl hin rfl (by decide +kernel) rfl rfl (Nat.le_of_ble_eq_true rfl) dX2_init_8 (fun H locs hP hD hS => ?_)
  have hP : va_P (gD G) vwCl [(h0, .inr (2, [.ref q6, .int z0])), (g0, .inl (gI G, n2, .inl CT)), (q6, .inl (gI G, 4, .inl (fun _ => 0)))] H := hP
  have hD : va_D A [(h0, .inr (2, [.ref q6, .int z0])), (g0, .inl (gI G, n2, .inl CT)), (q6, .inl (gI G, 4, .inl (fun _ => 0)))] := hD
  refine lv_aload_n hx hb dX2_init_11 rfl (lv_at hl 0 rfl) ?_
  refine lv_iload_n hx hb dX2_init_12 rfl (lv_at hl 1 rfl) ?_
  refine lv_iconst (v := 3) hx hb dX2_init_13 (by decide) ?_
  refine va_mmin hx hb (by rw [hml]; exact hl.1.symm) hown hm13 hmsmin hmi hmcmin (Nat.le_of_ble_eq_true rfl) (Nat.le_of_ble_eq_true rfl) (Nat.le_of_ble_eq_true rfl) (Nat.le_of_ble_eq_true rfl) dX2_init_14 ?_
  refine va_putF (ci := 2) (v := .int (if 3 < p1 then 3 else p1)) (ty := .int) (C := RX2) (T := TX2) (N := 2) hx hb hts hin2 tyX2 tyX2_ok nmX2 hown hK hP hD hS 0 rfl rfl 1 (by decide) hfl19 (fun _ h9 => h9) rfl hin rfl (by decide +kernel) rfl rfl (Nat.le_of_ble_eq_true rfl) dX2_init_17 (fun H locs hP hD hS => ?_)
  have hP : va_P (gD G) vwCl [(h0, .inr (2, [.ref q6, .int (if 3 < p1 then 3 else p1)])), (g0, .inl (gI G, n2, .inl CT)), (q6, .inl (gI G, 4, .inl (fun _ => 0)))] H := hP
  have hD : va_D A [(h0, .inr (2, [.ref q6, .int (if 3 < p1 then 3 else p1)])), (g0, .inl (gI G, n2, .inl CT)), (q6, .inl (gI G, 4, .inl (fun _ => 0)))] := hD
  refine lv_iconst (v := 4) hx hb dX2_init_20 (by decide) ?_
  refine nw_I (N' := 4) hx hb harrI hK hP hD hS hA (by decide) (by decide) (by decide) (Nat.le_of_ble_eq_true rfl) (Nat.le_of_ble_eq_true rfl) dX2_init_21 (fun q21 H hP hD hS => ?_)
  have hP : va_P (gD G) vwCl [(h0, .inr (2, [.ref q6, .int (if 3 < p1 then 3 else p1)])), (g0, .inl (gI G, n2, .inl CT)), (q6, .inl (gI G, 4, .inl (fun _ => 0))), (q21, .inl (gI G, 4, .inl (fun _ => 0)))] H := hP
  have hD : va_D A [(h0, .inr (2, [.ref q6, .int (if 3 < p1 then 3 else p1)])), (g0, .inl (gI G, n2, .inl CT)), (q6, .inl (gI G, 4, .inl (fun _ => 0))), (q21, .inl (gI G, 4, .inl (fun _ => 0)))] := hD
  refine W.widen (k := 2) (n := 8) (by omega) (by omega) ?_
  refine lv_astore_n (lv' := [(3, .ref q21), (0, .ref h0), (1, .int p1), (2, .ref g0)]) hx hb dX2_init_23 rfl hl (by decide) rfl (fun ls hl => ?_)
  refine lv_iconst (v := 0) hx hb dX2_init_24 (by decide) ?_
  refine lv_istore (lv' := [(4, .int 0), (3, .ref q21), (0, .ref h0), (1, .int p1), (2, .ref g0)]) hx hb dX2_init_25 hl (by decide) rfl (fun ls hl => ?_)
  exact hL27 FU q6 q21 0 (if 3 < p1 then 3 else p1) (fun _ => 0) (fun _ => 0) _ _ _ hF hP hD hS (lv_sub hl [2, 4, 1, 0] rfl)
def fX3_init  : Option (Int32 × Int32 × Int32 × Int32 × Int32 × Int32 × Int32 × Int32 × Int32 × Int32 × Int32 × Int32 × Int32 × Int32 × Int32 × (Nat → Int32) × Nat × (Nat → Int32) × (Nat → Int32) × (Nat → Int32) × Nat × (Nat → Int32) × (Nat → Int32) × (Nat → Int32) × (Nat → Int32) × Nat × (Nat → Int32) × (Nat → Int32) × (Nat → Int32)) :=
  (bd (fX4_init 121) (fun v_1 => (bd (fX1_init 80) (fun v_3 => (bd (fX1_init 3) (fun v_5 => (bd (fX6_init) (fun v_7 => (bd (fX6_init) (fun v_9 => (bd (fX6_init) (fun v_11 => (bd (fX6_init) (fun v_13 => (some (0, 0, 0, 0, 0, 0, 0, 0, 0, 0, 0, 0, 0, 0, 0, v_1.1, v_1.2.1, v_1.2.2.1, v_1.2.2.2, v_3.1, v_3.2.1, v_3.2.2.1, v_3.2.2.2.1, v_3.2.2.2.2, v_5.1, v_5.2.1, v_5.2.2.1, v_5.2.2.2.1, v_5.2.2.2.2))))))))))))))))
abbrev rX3_init : Room := { frames := 2, cells := 40, slots := 2000, locals := 43 }
set_option maxHeartbeats 40000000 in
set_option maxRecDepth 100000 in
theorem kX3_init (l : Launch) (G : GT) (h0 : Nat) (sz : Nat) (z0 : Int32) (res : Int32 × Int32 × Int32 × Int32 × Int32 × Int32 × Int32 × Int32 × Int32 × Int32 × Int32 × Int32 × Int32 × Int32 × Int32 × (Nat → Int32) × Nat × (Nat → Int32) × (Nat → Int32) × (Nat → Int32) × Nat × (Nat → Int32) × (Nat → Int32) × (Nat → Int32) × (Nat → Int32) × Nat × (Nat → Int32) × (Nat → Int32) × (Nat → Int32)) (hF : fX3_init = some res) : Met l yX3_init wsX3_init rX3_init (va_Pc [.ref h0] (fun U => pW G sz [(h0, .inr (3, [.null, .null, .null, .null, .null, .null, .null, .int z0]))] U ∧ va_Nw (.methodLinkNest RX3 32 yX6_init "SwellBodies") U)) (va_Qv (fun (u : Int32 × Int32 × Int32 × Int32 × Int32 × Int32 × Int32 × Int32 × Int32 × Int32 × Int32 × Int32 × Int32 × Int32 × Int32 × (Nat → Int32) × Nat × (Nat → Int32) × (Nat → Int32) × (Nat → Int32) × Nat × (Nat → Int32) × (Nat → Int32) × (Nat → Int32) × (Nat → Int32) × Nat × (Nat → Int32) × (Nat → Int32) × (Nat → Int32)) => u = res) (fun u t => ∃ nu : Nat → Nat, qW G (va_A [(h0, .inr (3, [.null, .null, .null, .null, .null, .null, .null, .int z0]))] sz) [(h0, .inr (3, [.ref (nu 0), .ref (nu 1), .ref (nu 2), .ref (nu 3), .ref (nu 4), .ref (nu 5), .ref (nu 6), .int z0])), ((nu 0), .inr (4, [.ref (nu 7), .ref (nu 8), .ref (nu 9), .int u.1])), ((nu 1), .inr (1, [.ref (nu 10), .ref (nu 11), .ref (nu 12), .ref (nu 13), .int u.2.1])), ((nu 2), .inr (1, [.ref (nu 14), .ref (nu 15), .ref (nu 16), .ref (nu 17), .int u.2.2.1])), ((nu 3), .inr (6, [.int u.2.2.2.1, .int u.2.2.2.2.1, .int u.2.2.2.2.2.1])), ((nu 4), .inr (6, [.int u.2.2.2.2.2.2.1, .int u.2.2.2.2.2.2.2.1, .int u.2.2.2.2.2.2.2.2.1])), ((nu 5), .inr (6, [.int u.2.2.2.2.2.2.2.2.2.1, .int u.2.2.2.2.2.2.2.2.2.2.1, .int u.2.2.2.2.2.2.2.2.2.2.2.1])), ((nu 6), .inr (6, [.int u.2.2.2.2.2.2.2.2.2.2.2.2.1, .int u.2.2.2.2.2.2.2.2.2.2.2.2.2.1, .int u.2.2.2.2.2.2.2.2.2.2.2.2.2.2.1])), ((nu 7), .inl (gI G, u.2.2.2.2.2.2.2.2.2.2.2.2.2.2.2.2.1, .inl u.2.2.2.2.2.2.2.2.2.2.2.2.2.2.2.1)), ((nu 8), .inl (gI G, u.2.2.2.2.2.2.2.2.2.2.2.2.2.2.2.2.1, .inl u.2.2.2.2.2.2.2.2.2.2.2.2.2.2.2.2.2.1)), ((nu 9), .inl (gI G, u.2.2.2.2.2.2.2.2.2.2.2.2.2.2.2.2.1, .inl u.2.2.2.2.2.2.2.2.2.2.2.2.2.2.2.2.2.2.1)), ((nu 10), .inl (gI G, u.2.2.2.2.2.2.2.2.2.2.2.2.2.2.2.2.2.2.2.2.1, .inl u.2.2.2.2.2.2.2.2.2.2.2.2.2.2.2.2.2.2.2.1)), ((nu 11), .inl (gI G, u.2.2.2.2.2.2.2.2.2.2.2.2.2.2.2.2.2.2.2.2.1, .inl u.2.2.2.2.2.2.2.2.2.2.2.2.2.2.2.2.2.2.2.2.2.1)), ((nu 12), .inl (gI G, u.2.2.2.2.2.2.2.2.2.2.2.2.2.2.2.2.2.2.2.2.1, .inl u.2.2.2.2.2.2.2.2.2.2.2.2.2.2.2.2.2.2.2.2.2.2.1)), ((nu 13), .inl (gI G, u.2.2.2.2.2.2.2.2.2.2.2.2.2.2.2.2.2.2.2.2.1, .inl u.2.2.2.2.2.2.2.2.2.2.2.2.2.2.2.2.2.2.2.2.2.2.2.1)), ((nu 14), .inl (gI G, u.2.2.2.2.2.2.2.2.2.2.2.2.2.2.2.2.2.2.2.2.2.2.2.2.2.1, .inl u.2.2.2.2.2.2.2.2.2.2.2.2.2.2.2.2.2.2.2.2.2.2.2.2.1)), ((nu 15), .inl (gI G, u.2.2.2.2.2.2.2.2.2.2.2.2.2.2.2.2.2.2.2.2.2.2.2.2.2.1, .inl u.2.2.2.2.2.2.2.2.2.2.2.2.2.2.2.2.2.2.2.2.2.2.2.2.2.2.1)), ((nu 16), .inl (gI G, u.2.2.2.2.2.2.2.2.2.2.2.2.2.2.2.2.2.2.2.2.2.2.2.2.2.1, .inl u.2.2.2.2.2.2.2.2.2.2.2.2.2.2.2.2.2.2.2.2.2.2.2.2.2.2.2.1)), ((nu 17), .inl (gI G, u.2.2.2.2.2.2.2.2.2.2.2.2.2.2.2.2.2.2.2.2.2.2.2.2.2.1, .inl u.2.2.2.2.2.2.2.2.2.2.2.2.2.2.2.2.2.2.2.2.2.2.2.2.2.2.2.2))] t) (va_A [(h0, .inr (3, [.null, .null, .null, .null, .null, .null, .null, .int z0]))] sz)) 40 2000 (va_A [(h0, .inr (3, [.null, .null, .null, .null, .null, .null, .null, .int z0]))] sz) := by
  refine Met.ofW (cc := cX3_init) (maxL := 1) (ret := none) (by decide) rfl ?_
  intro p e s m args below meth c s₁ B hml hv
  obtain ⟨rfl, ⟨hsz, hP, hK, hD0⟩, hN_RX3_32⟩ := hv
  have hx := B.exec
  have hb := B.bytes
  have hr := B.returns
  have hts := atoms_spec (ws := wsX3_init) B.pre
  have hown : s.vm.findClass RX3 = some m.cls := findClass_of_methodNamed B.named
  have hlocks := B.notSynchronized
  have hin : meth.name = "<init>" := (name_of_methodNamed B.named B.method).1
  subst hsz
  have hD := hD0.self (sz := s.heap.size)
  generalize hAe : va_A [(h0, .inr (3, [.null, .null, .null, .null, .null, .null, .null, .int z0]))] s.heap.size = A at hD ⊢
  have hA : ∀ q : Nat, s.heap.size ≤ q → A q := fun q h => by rw [← hAe]; exact Or.inr h
  have hS : va_S A s.heap s.heap [] := va_S.rf
  have hoi3 := hts (.methodLink RX3 3 objectInit) (by decide +kernel)
  have hoin := hts (.instanceMethod objectInit) (by decide +kernel)
  have hoic := hts (.code objectInit ⟨#[0xb1]⟩ 1 none) (by decide +kernel)
  have hin4 : ∀ w ∈ u_ws RX4 TX4 4, w ∈ wsX3_init := by decide +kernel
  have hcl9 := hts (.classLink RX3 9 RX4) (by decide +kernel)
  have hins4 := hts (.instantiable RX4 4) (by decide +kernel)
  have hini4 := hts (.initialized RX4) (by decide +kernel)
  have him_X4_init := hts (.instanceMethod yX4_init) (by decide +kernel)
  have hml11 := hts (.methodLink RX3 11 yX4_init) (by decide +kernel)
  have hin3 : ∀ w ∈ u_ws RX3 TX3 8, w ∈ wsX3_init := by decide +kernel
  have hfl14 := hts (.fieldLink RX3 14 "SwellBodies$Maker" "points" "LSwellBodies$Points;") (by decide +kernel)
  have hin1 : ∀ w ∈ u_ws RX1 TX1 5, w ∈ wsX3_init := by decide +kernel
  have hcl20 := hts (.classLink RX3 20 RX1) (by decide +kernel)
  have hins1 := hts (.instantiable RX1 5) (by decide +kernel)
  have hini1 := hts (.initialized RX1) (by decide +kernel)
  have him_X1_init := hts (.instanceMethod yX1_init) (by decide +kernel)
  have hml22 := hts (.methodLink RX3 22 yX1_init) (by decide +kernel)
  have hfl23 := hts (.fieldLink RX3 23 "SwellBodies$Maker" "sides" "LSwellBodies$Conditions;") (by decide +kernel)
  have hfl27 := hts (.fieldLink RX3 27 "SwellBodies$Maker" "bonds" "LSwellBodies$Conditions;") (by decide +kernel)
  have hin6 : ∀ w ∈ u_ws RX6 TX6 3, w ∈ wsX3_init := by decide +kernel
  have hcl30 := hts (.classLink RX3 30 RX6) (by decide +kernel)
  have hins6 := hts (.instantiable RX6 3) (by decide +kernel)
  have hini6 := hts (.initialized RX6) (by decide +kernel)
  have him_X6_init := hts (.instanceMethod yX6_init) (by decide +kernel)
  have hfl33 := hts (.fieldLink RX3 33 "SwellBodies$Maker" "along" "LSwellBodies$Step;") (by decide +kernel)
  have hfl37 := hts (.fieldLink RX3 37 "SwellBodies$Maker" "across" "LSwellBodies$Step;") (by decide +kernel)
  have hfl40 := hts (.fieldLink RX3 40 "SwellBodies$Maker" "square" "LSwellBodies$Step;") (by decide +kernel)
  have hfl43 := hts (.fieldLink RX3 43 "SwellBodies$Maker" "facing" "LSwellBodies$Step;") (by decide +kernel)
  have hl := lv_entry ([.ref h0]) (n := 1) (Nat.le_of_ble_eq_true rfl)
  rw [lg_entry_eq]
  generalize (lg_sl ([.ref h0]) ++ List.replicate (1 - (lg_sl ([.ref h0])).length) Slot.unset).toArray = ls at hl ⊢
  have hl : lv_has ls 1 [(0, .ref h0)] := hl
  unfold fX3_init at hF
  refine lv_aload_n hx hb dX3_init_0 rfl (lv_at hl 0 rfl) ?_
  refine W.objInit hx hb hown hoi3 hoin hoic rfl (by rw [hml]; exact hl.1) rfl dX3_init_1 (Nat.le_of_ble_eq_true rfl) (Nat.le_of_ble_eq_true rfl) ?_
  refine W.eq (g2 := F0 m 4 ls []) rfl ?_
  refine lv_aload_n hx hb dX3_init_4 rfl (lv_at hl 0 rfl) ?_
  refine va_new (ci := 4) (fs := [.null, .null, .null, .int 0]) (C := RX4) (T := TX4) (N := 4) hx hb hts hin4 tyX4 tyX4_ok hown hcl9 hins4 hini4 hK hP hD hS hA rfl (fun j hj => by rcases (show j = 0 ∨ j = 1 ∨ j = 2 ∨ j = 3 by omega) with rfl | rfl | rfl | rfl <;> rfl) (Nat.le_of_ble_eq_true rfl) (Nat.le_of_ble_eq_true rfl) dX3_init_5 (fun q5 H hP hD hS => ?_)
  have hP : va_P (gD G) vwCl [(h0, .inr (3, [.null, .null, .null, .null, .null, .null, .null, .int z0])), (q5, .inr (4, [.null, .null, .null, .int 0]))] H := hP
  have hD : va_D A [(h0, .inr (3, [.null, .null, .null, .null, .null, .null, .null, .int z0])), (q5, .inr (4, [.null, .null, .null, .int 0]))] := hD
  refine W.widen (k := 1) (n := 4) (by omega) (by omega) ?_
  refine lv_dup hx hb dX3_init_8 rfl ?_
  refine lv_bipush (v := 121) hx hb dX3_init_9 (by decide) ?_
  obtain ⟨v_1, hv_1, hF⟩ := bd_s hF
  refine rn_v (wf := (fun (u : (Nat → Int32) × Nat × (Nat → Int32) × (Nat → Int32)) (nu : Nat → Nat) => [(q5, .inr (4, [.ref (nu 0), .ref (nu 1), .ref (nu 2), .int 0])), ((nu 0), .inl (gI G, u.2.1, .inl u.1)), ((nu 1), .inl (gI G, u.2.1, .inl u.2.2.1)), ((nu 2), .inl (gI G, u.2.1, .inl u.2.2.2))])) (wr := [(h0, .inr (3, [.null, .null, .null, .null, .null, .null, .null, .int z0]))]) (va_runI (As := [.int 121]) (rest := [.ref q5, .ref h0]) ⟨hx, hb, hml, hown, hts⟩ (kX4_init l G q5 H.size 0 121 v_1 hv_1) (cwI 1 hts gX3_init_X4_init rfl rfl rfl hini4 hml11 him_X4_init rfl (by decide +kernel) ⟨Nat.le_of_ble_eq_true rfl, Nat.le_of_ble_eq_true rfl⟩) (psW hK (hP.sub (ws' := [(q5, .inr (4, [.null, .null, .null, .int 0]))]) [1] rfl) (hD.sub (ws' := [(q5, .inr (4, [.null, .null, .null, .int 0]))]) [1] (by decide) rfl) ) rfl rfl hl.1 rfl (lv_room (Nat.le_of_ble_eq_true rfl)) dX3_init_11 ⟨Nat.le_of_ble_eq_true rfl, Nat.le_of_ble_eq_true rfl⟩) hP hD hS hA [1] [0] rfl rfl (by decide) (by decide) (fun nu_2 H locs hP hD hS => ?_)
  have hP : va_P (gD G) vwCl [(h0, .inr (3, [.null, .null, .null, .null, .null, .null, .null, .int z0])), (q5, .inr (4, [.ref (nu_2 0), .ref (nu_2 1), .ref (nu_2 2), .int 0])), ((nu_2 0), .inl (gI G, v_1.2.1, .inl v_1.1)), ((nu_2 1), .inl (gI G, v_1.2.1, .inl v_1.2.2.1)), ((nu_2 2), .inl (gI G, v_1.2.1, .inl v_1.2.2.2))] H := hP.sub [0, 1, 2, 3, 4] rfl
  have hD : va_D A [(h0, .inr (3, [.null, .null, .null, .null, .null, .null, .null, .int z0])), (q5, .inr (4, [.ref (nu_2 0), .ref (nu_2 1), .ref (nu_2 2), .int 0])), ((nu_2 0), .inl (gI G, v_1.2.1, .inl v_1.1)), ((nu_2 1), .inl (gI G, v_1.2.1, .inl v_1.2.2.1)), ((nu_2 2), .inl (gI G, v_1.2.1, .inl v_1.2.2.2))] := hD.sub [0, 1, 2, 3, 4] (by decide) rfl
  refine W.widen (k := 4) (n := 394) (Nat.le_of_ble_eq_true rfl) (Nat.le_of_ble_eq_true rfl) ?_
  refine va_putF (ci := 3) (v := .ref q5) (ty := .object "SwellBodies$Points") (C := RX3) (T := TX3) (N := 8) hx hb hts hin3 tyX3 tyX3_ok nmX3 hown hK hP hD hS 0 rfl rfl 0 (by decide) hfl14 (fun _ h9 => h9) rfl hin rfl (by decide +kernel) rfl rfl (Nat.le_of_ble_eq_true rfl) dX3_init_14 (fun H locs hP hD hS => ?_)
  have hP : va_P (gD G) vwCl [(h0, .inr (3, [.ref q5, .null, .null, .null, .null, .null, .null, .int z0])), (q5, .inr (4, [.ref (nu_2 0), .ref (nu_2 1), .ref (nu_2 2), .int 0])), ((nu_2 0), .inl (gI G, v_1.2.1, .inl v_1.1)), ((nu_2 1), .inl (gI G, v_1.2.1, .inl v_1.2.2.1)), ((nu_2 2), .inl (gI G, v_1.2.1, .inl v_1.2.2.2))] H := hP
  have hD : va_D A [(h0, .inr (3, [.ref q5, .null, .null, .null, .null, .null, .null, .int z0])), (q5, .inr (4, [.ref (nu_2 0), .ref (nu_2 1), .ref (nu_2 2), .int 0])), ((nu_2 0), .inl (gI G, v_1.2.1, .inl v_1.1)), ((nu_2 1), .inl (gI G, v_1.2.1, .inl v_1.2.2.1)), ((nu_2 2), .inl (gI G, v_1.2.1, .inl v_1.2.2.2))] := hD
  refine lv_aload_n hx hb dX3_init_17 rfl (lv_at hl 0 rfl) ?_
  refine va_new (ci := 1) (fs := [.null, .null, .null, .null, .int 0]) (C := RX1) (T := TX1) (N := 5) hx hb hts hin1 tyX1 tyX1_ok hown hcl20 hins1 hini1 hK hP hD hS hA rfl (fun j hj => by rcases (show j = 0 ∨ j = 1 ∨ j = 2 ∨ j = 3 ∨ j = 4 by omega) with rfl | rfl | rfl | rfl | rfl <;> rfl) (Nat.le_of_ble_eq_true rfl) (Nat.le_of_ble_eq_true rfl) dX3_init_18 (fun q18 H hP hD hS => ?_)
  have hP : va_P (gD G) vwCl [(h0, .inr (3, [.ref q5, .null, .null, .null, .null, .null, .null, .int z0])), (q5, .inr (4, [.ref (nu_2 0), .ref (nu_2 1), .ref (nu_2 2), .int 0])), ((nu_2 0), .inl (gI G, v_1.2.1, .inl v_1.1)), ((nu_2 1), .inl (gI G, v_1.2.1, .inl v_1.2.2.1)), ((nu_2 2), .inl (gI G, v_1.2.1, .inl v_1.2.2.2)), (q18, .inr (1, [.null, .null, .null, .null, .int 0]))] H := hP
  have hD : va_D A [(h0, .inr (3, [.ref q5, .null, .null, .null, .null, .null, .null, .int z0])), (q5, .inr (4, [.ref (nu_2 0), .ref (nu_2 1), .ref (nu_2 2), .int 0])), ((nu_2 0), .inl (gI G, v_1.2.1, .inl v_1.1)), ((nu_2 1), .inl (gI G, v_1.2.1, .inl v_1.2.2.1)), ((nu_2 2), .inl (gI G, v_1.2.1, .inl v_1.2.2.2)), (q18, .inr (1, [.null, .null, .null, .null, .int 0]))] := hD
  refine W.widen (k := 5) (n := 399) (by omega) (by omega) ?_
  refine lv_dup hx hb dX3_init_21 rfl ?_
  refine lv_bipush (v := 80) hx hb dX3_init_22 (by decide) ?_
  obtain ⟨v_3, hv_3, hF⟩ := bd_s hF
  refine rn_v (wf := (fun (u : (Nat → Int32) × Nat × (Nat → Int32) × (Nat → Int32) × (Nat → Int32)) (nu : Nat → Nat) => [(q18, .inr (1, [.ref (nu 0), .ref (nu 1), .ref (nu 2), .ref (nu 3), .int 0])), ((nu 0), .inl (gI G, u.2.1, .inl u.1)), ((nu 1), .inl (gI G, u.2.1, .inl u.2.2.1)), ((nu 2), .inl (gI G, u.2.1, .inl u.2.2.2.1)), ((nu 3), .inl (gI G, u.2.1, .inl u.2.2.2.2))])) (wr := [(h0, .inr (3, [.ref q5, .null, .null, .null, .null, .null, .null, .int z0])), (q5, .inr (4, [.ref (nu_2 0), .ref (nu_2 1), .ref (nu_2 2), .int 0])), ((nu_2 0), .inl (gI G, v_1.2.1, .inl v_1.1)), ((nu_2 1), .inl (gI G, v_1.2.1, .inl v_1.2.2.1)), ((nu_2 2), .inl (gI G, v_1.2.1, .inl v_1.2.2.2))]) (va_runI (As := [.int 80]) (rest := [.ref q18, .ref h0]) ⟨hx, hb, hml, hown, hts⟩ (kX1_init l G q18 H.size 0 80 v_3 hv_3) (cwI 1 hts gX3_init_X1_init rfl rfl rfl hini1 hml22 him_X1_init rfl (by decide +kernel) ⟨Nat.le_of_ble_eq_true rfl, Nat.le_of_ble_eq_true rfl⟩) (psW hK (hP.sub (ws' := [(q18, .inr (1, [.null, .null, .null, .null, .int 0]))]) [5] rfl) (hD.sub (ws' := [(q18, .inr (1, [.null, .null, .null, .null, .int 0]))]) [5] (by decide) rfl) ) rfl rfl hl.1 rfl (lv_room (Nat.le_of_ble_eq_true rfl)) dX3_init_24 ⟨Nat.le_of_ble_eq_true rfl, Nat.le_of_ble_eq_true rfl⟩) hP hD hS hA [5] [0, 1, 2, 3, 4] rfl rfl (by decide) (by decide) (fun nu_4 H locs hP hD hS => ?_)
  have hP : va_P (gD G) vwCl [(h0, .inr (3, [.ref q5, .null, .null, .null, .null, .null, .null, .int z0])), (q5, .inr (4, [.ref (nu_2 0), .ref (nu_2 1), .ref (nu_2 2), .int 0])), ((nu_2 0), .inl (gI G, v_1.2.1, .inl v_1.1)), ((nu_2 1), .inl (gI G, v_1.2.1, .inl v_1.2.2.1)), ((nu_2 2), .inl (gI G, v_1.2.1, .inl v_1.2.2.2)), (q18, .inr (1, [.ref (nu_4 0), .ref (nu_4 1), .ref (nu_4 2), .ref (nu_4 3), .int 0])), ((nu_4 0), .inl (gI G, v_3.2.1, .inl v_3.1)), ((nu_4 1), .inl (gI G, v_3.2.1, .inl v_3.2.2.1)), ((nu_4 2), .inl (gI G, v_3.2.1, .inl v_3.2.2.2.1)), ((nu_4 3), .inl (gI G, v_3.2.1, .inl v_3.2.2.2.2))] H := hP.sub [0, 1, 2, 3, 4, 5, 6, 7, 8, 9] rfl
  have hD : va_D A [(h0, .inr (3, [.ref q5, .null, .null, .null, .null, .null, .null, .int z0])), (q5, .inr (4, [.ref (nu_2 0), .ref (nu_2 1), .ref (nu_2 2), .int 0])), ((nu_2 0), .inl (gI G, v_1.2.1, .inl v_1.1)), ((nu_2 1), .inl (gI G, v_1.2.1, .inl v_1.2.2.1)), ((nu_2 2), .inl (gI G, v_1.2.1, .inl v_1.2.2.2)), (q18, .inr (1, [.ref (nu_4 0), .ref (nu_4 1), .ref (nu_4 2), .ref (nu_4 3), .int 0])), ((nu_4 0), .inl (gI G, v_3.2.1, .inl v_3.1)), ((nu_4 1), .inl (gI G, v_3.2.1, .inl v_3.2.2.1)), ((nu_4 2), .inl (gI G, v_3.2.1, .inl v_3.2.2.2.1)), ((nu_4 3), .inl (gI G, v_3.2.1, .inl v_3.2.2.2.2))] := hD.sub [0, 1, 2, 3, 4, 5, 6, 7, 8, 9] (by decide) rfl
  refine W.widen (k := 9) (n := 759) (Nat.le_of_ble_eq_true rfl) (Nat.le_of_ble_eq_true rfl) ?_
  refine va_putF (ci := 3) (v := .ref q18) (ty := .object "SwellBodies$Conditions") (C := RX3) (T := TX3) (N := 8) hx hb hts hin3 tyX3 tyX3_ok nmX3 hown hK hP hD hS 0 rfl rfl 1 (by decide) hfl23 (fun _ h9 => h9) rfl hin rfl (by decide +kernel) rfl rfl (Nat.le_of_ble_eq_true rfl) dX3_init_27 (fun H locs hP hD hS => ?_)
  have hP : va_P (gD G) vwCl [(h0, .inr (3, [.ref q5, .ref q18, .null, .null, .null, .null, .null, .int z0])), (q5, .inr (4, [.ref (nu_2 0), .ref (nu_2 1), .ref (nu_2 2), .int 0])), ((nu_2 0), .inl (gI G, v_1.2.1, .inl v_1.1)), ((nu_2 1), .inl (gI G, v_1.2.1, .inl v_1.2.2.1)), ((nu_2 2), .inl (gI G, v_1.2.1, .inl v_1.2.2.2)), (q18, .inr (1, [.ref (nu_4 0), .ref (nu_4 1), .ref (nu_4 2), .ref (nu_4 3), .int 0])), ((nu_4 0), .inl (gI G, v_3.2.1, .inl v_3.1)), ((nu_4 1), .inl (gI G, v_3.2.1, .inl v_3.2.2.1)), ((nu_4 2), .inl (gI G, v_3.2.1, .inl v_3.2.2.2.1)), ((nu_4 3), .inl (gI G, v_3.2.1, .inl v_3.2.2.2.2))] H := hP
  have hD : va_D A [(h0, .inr (3, [.ref q5, .ref q18, .null, .null, .null, .null, .null, .int z0])), (q5, .inr (4, [.ref (nu_2 0), .ref (nu_2 1), .ref (nu_2 2), .int 0])), ((nu_2 0), .inl (gI G, v_1.2.1, .inl v_1.1)), ((nu_2 1), .inl (gI G, v_1.2.1, .inl v_1.2.2.1)), ((nu_2 2), .inl (gI G, v_1.2.1, .inl v_1.2.2.2)), (q18, .inr (1, [.ref (nu_4 0), .ref (nu_4 1), .ref (nu_4 2), .ref (nu_4 3), .int 0])), ((nu_4 0), .inl (gI G, v_3.2.1, .inl v_3.1)), ((nu_4 1), .inl (gI G, v_3.2.1, .inl v_3.2.2.1)), ((nu_4 2), .inl (gI G, v_3.2.1, .inl v_3.2.2.2.1)), ((nu_4 3), .inl (gI G, v_3.2.1, .inl v_3.2.2.2.2))] := hD
  refine lv_aload_n hx hb dX3_init_30 rfl (lv_at hl 0 rfl) ?_
  refine va_new (ci := 1) (fs := [.null, .null, .null, .null, .int 0]) (C := RX1) (T := TX1) (N := 5) hx hb hts hin1 tyX1 tyX1_ok hown hcl20 hins1 hini1 hK hP hD hS hA rfl (fun j hj => by rcases (show j = 0 ∨ j = 1 ∨ j = 2 ∨ j = 3 ∨ j = 4 by omega) with rfl | rfl | rfl | rfl | rfl <;> rfl) (Nat.le_of_ble_eq_true rfl) (Nat.le_of_ble_eq_true rfl) dX3_init_31 (fun q31 H hP hD hS => ?_)
  have hP : va_P (gD G) vwCl [(h0, .inr (3, [.ref q5, .ref q18, .null, .null, .null, .null, .null, .int z0])), (q5, .inr (4, [.ref (nu_2 0), .ref (nu_2 1), .ref (nu_2 2), .int 0])), ((nu_2 0), .inl (gI G, v_1.2.1, .inl v_1.1)), ((nu_2 1), .inl (gI G, v_1.2.1, .inl v_1.2.2.1)), ((nu_2 2), .inl (gI G, v_1.2.1, .inl v_1.2.2.2)), (q18, .inr (1, [.ref (nu_4 0), .ref (nu_4 1), .ref (nu_4 2), .ref (nu_4 3), .int 0])), ((nu_4 0), .inl (gI G, v_3.2.1, .inl v_3.1)), ((nu_4 1), .inl (gI G, v_3.2.1, .inl v_3.2.2.1)), ((nu_4 2), .inl (gI G, v_3.2.1, .inl v_3.2.2.2.1)), ((nu_4 3), .inl (gI G, v_3.2.1, .inl v_3.2.2.2.2)), (q31, .inr (1, [.null, .null, .null, .null, .int 0]))] H := hP
  have hD : va_D A [(h0, .inr (3, [.ref q5, .ref q18, .null, .null, .null, .null, .null, .int z0])), (q5, .inr (4, [.ref (nu_2 0), .ref (nu_2 1), .ref (nu_2 2), .int 0])), ((nu_2 0), .inl (gI G, v_1.2.1, .inl v_1.1)), ((nu_2 1), .inl (gI G, v_1.2.1, .inl v_1.2.2.1)), ((nu_2 2), .inl (gI G, v_1.2.1, .inl v_1.2.2.2)), (q18, .inr (1, [.ref (nu_4 0), .ref (nu_4 1), .ref (nu_4 2), .ref (nu_4 3), .int 0])), ((nu_4 0), .inl (gI G, v_3.2.1, .inl v_3.1)), ((nu_4 1), .inl (gI G, v_3.2.1, .inl v_3.2.2.1)), ((nu_4 2), .inl (gI G, v_3.2.1, .inl v_3.2.2.2.1)), ((nu_4 3), .inl (gI G, v_3.2.1, .inl v_3.2.2.2.2)), (q31, .inr (1, [.null, .null, .null, .null, .int 0]))] := hD
  refine W.widen (k := 10) (n := 764) (by omega) (by omega) ?_
  refine lv_dup hx hb dX3_init_34 rfl ?_
  refine lv_iconst (v := 3) hx hb dX3_init_35 (by decide) ?_
  obtain ⟨v_5, hv_5, hF⟩ := bd_s hF
  refine rn_v (wf := (fun (u : (Nat → Int32) × Nat × (Nat → Int32) × (Nat → Int32) × (Nat → Int32)) (nu : Nat → Nat) => [(q31, .inr (1, [.ref (nu 0), .ref (nu 1), .ref (nu 2), .ref (nu 3), .int 0])), ((nu 0), .inl (gI G, u.2.1, .inl u.1)), ((nu 1), .inl (gI G, u.2.1, .inl u.2.2.1)), ((nu 2), .inl (gI G, u.2.1, .inl u.2.2.2.1)), ((nu 3), .inl (gI G, u.2.1, .inl u.2.2.2.2))])) (wr := [(h0, .inr (3, [.ref q5, .ref q18, .null, .null, .null, .null, .null, .int z0])), (q5, .inr (4, [.ref (nu_2 0), .ref (nu_2 1), .ref (nu_2 2), .int 0])), ((nu_2 0), .inl (gI G, v_1.2.1, .inl v_1.1)), ((nu_2 1), .inl (gI G, v_1.2.1, .inl v_1.2.2.1)), ((nu_2 2), .inl (gI G, v_1.2.1, .inl v_1.2.2.2)), (q18, .inr (1, [.ref (nu_4 0), .ref (nu_4 1), .ref (nu_4 2), .ref (nu_4 3), .int 0])), ((nu_4 0), .inl (gI G, v_3.2.1, .inl v_3.1)), ((nu_4 1), .inl (gI G, v_3.2.1, .inl v_3.2.2.1)), ((nu_4 2), .inl (gI G, v_3.2.1, .inl v_3.2.2.2.1)), ((nu_4 3), .inl (gI G, v_3.2.1, .inl v_3.2.2.2.2))]) (va_runI (As := [.int 3]) (rest := [.ref q31, .ref h0]) ⟨hx, hb, hml, hown, hts⟩ (kX1_init l G q31 H.size 0 3 v_5 hv_5) (cwI 1 hts gX3_init_X1_init rfl rfl rfl hini1 hml22 him_X1_init rfl (by decide +kernel) ⟨Nat.le_of_ble_eq_true rfl, Nat.le_of_ble_eq_true rfl⟩) (psW hK (hP.sub (ws' := [(q31, .inr (1, [.null, .null, .null, .null, .int 0]))]) [10] rfl) (hD.sub (ws' := [(q31, .inr (1, [.null, .null, .null, .null, .int 0]))]) [10] (by decide) rfl) ) rfl rfl hl.1 rfl (lv_room (Nat.le_of_ble_eq_true rfl)) dX3_init_36 ⟨Nat.le_of_ble_eq_true rfl, Nat.le_of_ble_eq_true rfl⟩) hP hD hS hA [10] [0, 1, 2, 3, 4, 5, 6, 7, 8, 9] rfl rfl (by decide) (by decide) (fun nu_6 H locs hP hD hS => ?_)
  have hP : va_P (gD G) vwCl [(h0, .inr (3, [.ref q5, .ref q18, .null, .null, .null, .null, .null, .int z0])), (q5, .inr (4, [.ref (nu_2 0), .ref (nu_2 1), .ref (nu_2 2), .int 0])), ((nu_2 0), .inl (gI G, v_1.2.1, .inl v_1.1)), ((nu_2 1), .inl (gI G, v_1.2.1, .inl v_1.2.2.1)), ((nu_2 2), .inl (gI G, v_1.2.1, .inl v_1.2.2.2)), (q18, .inr (1, [.ref (nu_4 0), .ref (nu_4 1), .ref (nu_4 2), .ref (nu_4 3), .int 0])), ((nu_4 0), .inl (gI G, v_3.2.1, .inl v_3.1)), ((nu_4 1), .inl (gI G, v_3.2.1, .inl v_3.2.2.1)), ((nu_4 2), .inl (gI G, v_3.2.1, .inl v_3.2.2.2.1)), ((nu_4 3), .inl (gI G, v_3.2.1, .inl v_3.2.2.2.2)), (q31, .inr (1, [.ref (nu_6 0), .ref (nu_6 1), .ref (nu_6 2), .ref (nu_6 3), .int 0])), ((nu_6 0), .inl (gI G, v_5.2.1, .inl v_5.1)), ((nu_6 1), .inl (gI G, v_5.2.1, .inl v_5.2.2.1)), ((nu_6 2), .inl (gI G, v_5.2.1, .inl v_5.2.2.2.1)), ((nu_6 3), .inl (gI G, v_5.2.1, .inl v_5.2.2.2.2))] H := hP.sub [0, 1, 2, 3, 4, 5, 6, 7, 8, 9, 10, 11, 12, 13, 14] rfl
  have hD : va_D A [(h0, .inr (3, [.ref q5, .ref q18, .null, .null, .null, .null, .null, .int z0])), (q5, .inr (4, [.ref (nu_2 0), .ref (nu_2 1), .ref (nu_2 2), .int 0])), ((nu_2 0), .inl (gI G, v_1.2.1, .inl v_1.1)), ((nu_2 1), .inl (gI G, v_1.2.1, .inl v_1.2.2.1)), ((nu_2 2), .inl (gI G, v_1.2.1, .inl v_1.2.2.2)), (q18, .inr (1, [.ref (nu_4 0), .ref (nu_4 1), .ref (nu_4 2), .ref (nu_4 3), .int 0])), ((nu_4 0), .inl (gI G, v_3.2.1, .inl v_3.1)), ((nu_4 1), .inl (gI G, v_3.2.1, .inl v_3.2.2.1)), ((nu_4 2), .inl (gI G, v_3.2.1, .inl v_3.2.2.2.1)), ((nu_4 3), .inl (gI G, v_3.2.1, .inl v_3.2.2.2.2)), (q31, .inr (1, [.ref (nu_6 0), .ref (nu_6 1), .ref (nu_6 2), .ref (nu_6 3), .int 0])), ((nu_6 0), .inl (gI G, v_5.2.1, .inl v_5.1)), ((nu_6 1), .inl (gI G, v_5.2.1, .inl v_5.2.2.1)), ((nu_6 2), .inl (gI G, v_5.2.1, .inl v_5.2.2.2.1)), ((nu_6 3), .inl (gI G, v_5.2.1, .inl v_5.2.2.2.2))] := hD.sub [0, 1, 2, 3, 4, 5, 6, 7, 8, 9, 10, 11, 12, 13, 14] (by decide) rfl
  refine W.widen (k := 14) (n := 1124) (Nat.le_of_ble_eq_true rfl) (Nat.le_of_ble_eq_true rfl) ?_
  refine va_putF (ci := 3) (v := .ref q31) (ty := .object "SwellBodies$Conditions") (C := RX3) (T := TX3) (N := 8) hx hb hts hin3 tyX3 tyX3_ok nmX3 hown hK hP hD hS 0 rfl rfl 2 (by decide) hfl27 (fun _ h9 => h9) rfl hin rfl (by decide +kernel) rfl rfl (Nat.le_of_ble_eq_true rfl) dX3_init_39 (fun H locs hP hD hS => ?_)
  have hP : va_P (gD G) vwCl [(h0, .inr (3, [.ref q5, .ref q18, .ref q31, .null, .null, .null, .null, .int z0])), (q5, .inr (4, [.ref (nu_2 0), .ref (nu_2 1), .ref (nu_2 2), .int 0])), ((nu_2 0), .inl (gI G, v_1.2.1, .inl v_1.1)), ((nu_2 1), .inl (gI G, v_1.2.1, .inl v_1.2.2.1)), ((nu_2 2), .inl (gI G, v_1.2.1, .inl v_1.2.2.2)), (q18, .inr (1, [.ref (nu_4 0), .ref (nu_4 1), .ref (nu_4 2), .ref (nu_4 3), .int 0])), ((nu_4 0), .inl (gI G, v_3.2.1, .inl v_3.1)), ((nu_4 1), .inl (gI G, v_3.2.1, .inl v_3.2.2.1)), ((nu_4 2), .inl (gI G, v_3.2.1, .inl v_3.2.2.2.1)), ((nu_4 3), .inl (gI G, v_3.2.1, .inl v_3.2.2.2.2)), (q31, .inr (1, [.ref (nu_6 0), .ref (nu_6 1), .ref (nu_6 2), .ref (nu_6 3), .int 0])), ((nu_6 0), .inl (gI G, v_5.2.1, .inl v_5.1)), ((nu_6 1), .inl (gI G, v_5.2.1, .inl v_5.2.2.1)), ((nu_6 2), .inl (gI G, v_5.2.1, .inl v_5.2.2.2.1)), ((nu_6 3), .inl (gI G, v_5.2.1, .inl v_5.2.2.2.2))] H := hP
  have hD : va_D A [(h0, .inr (3, [.ref q5, .ref q18, .ref q31, .null, .null, .null, .null, .int z0])), (q5, .inr (4, [.ref (nu_2 0), .ref (nu_2 1), .ref (nu_2 2), .int 0])), ((nu_2 0), .inl (gI G, v_1.2.1, .inl v_1.1)), ((nu_2 1), .inl (gI G, v_1.2.1, .inl v_1.2.2.1)), ((nu_2 2), .inl (gI G, v_1.2.1, .inl v_1.2.2.2)), (q18, .inr (1, [.ref (nu_4 0), .ref (nu_4 1), .ref (nu_4 2), .ref (nu_4 3), .int 0])), ((nu_4 0), .inl (gI G, v_3.2.1, .inl v_3.1)), ((nu_4 1), .inl (gI G, v_3.2.1, .inl v_3.2.2.1)), ((nu_4 2), .inl (gI G, v_3.2.1, .inl v_3.2.2.2.1)), ((nu_4 3), .inl (gI G, v_3.2.1, .inl v_3.2.2.2.2)), (q31, .inr (1, [.ref (nu_6 0), .ref (nu_6 1), .ref (nu_6 2), .ref (nu_6 3), .int 0])), ((nu_6 0), .inl (gI G, v_5.2.1, .inl v_5.1)), ((nu_6 1), .inl (gI G, v_5.2.1, .inl v_5.2.2.1)), ((nu_6 2), .inl (gI G, v_5.2.1, .inl v_5.2.2.2.1)), ((nu_6 3), .inl (gI G, v_5.2.1, .inl v_5.2.2.2.2))] := hD
  refine lv_aload_n hx hb dX3_init_42 rfl (lv_at hl 0 rfl) ?_
  refine va_new (ci := 6) (fs := [.int 0, .int 0, .int 0]) (C := RX6) (T := TX6) (N := 3) hx hb hts hin6 tyX6 tyX6_ok hown hcl30 hins6 hini6 hK hP hD hS hA rfl (fun j hj => by rcases (show j = 0 ∨ j = 1 ∨ j = 2 by omega) with rfl | rfl | rfl <;> rfl) (Nat.le_of_ble_eq_true rfl) (Nat.le_of_ble_eq_true rfl) dX3_init_43 (fun q43 H hP hD hS => ?_)
  have hP : va_P (gD G) vwCl [(h0, .inr (3, [.ref q5, .ref q18, .ref q31, .null, .null, .null, .null, .int z0])), (q5, .inr (4, [.ref (nu_2 0), .ref (nu_2 1), .ref (nu_2 2), .int 0])), ((nu_2 0), .inl (gI G, v_1.2.1, .inl v_1.1)), ((nu_2 1), .inl (gI G, v_1.2.1, .inl v_1.2.2.1)), ((nu_2 2), .inl (gI G, v_1.2.1, .inl v_1.2.2.2)), (q18, .inr (1, [.ref (nu_4 0), .ref (nu_4 1), .ref (nu_4 2), .ref (nu_4 3), .int 0])), ((nu_4 0), .inl (gI G, v_3.2.1, .inl v_3.1)), ((nu_4 1), .inl (gI G, v_3.2.1, .inl v_3.2.2.1)), ((nu_4 2), .inl (gI G, v_3.2.1, .inl v_3.2.2.2.1)), ((nu_4 3), .inl (gI G, v_3.2.1, .inl v_3.2.2.2.2)), (q31, .inr (1, [.ref (nu_6 0), .ref (nu_6 1), .ref (nu_6 2), .ref (nu_6 3), .int 0])), ((nu_6 0), .inl (gI G, v_5.2.1, .inl v_5.1)), ((nu_6 1), .inl (gI G, v_5.2.1, .inl v_5.2.2.1)), ((nu_6 2), .inl (gI G, v_5.2.1, .inl v_5.2.2.2.1)), ((nu_6 3), .inl (gI G, v_5.2.1, .inl v_5.2.2.2.2)), (q43, .inr (6, [.int 0, .int 0, .int 0]))] H := hP
  have hD : va_D A [(h0, .inr (3, [.ref q5, .ref q18, .ref q31, .null, .null, .null, .null, .int z0])), (q5, .inr (4, [.ref (nu_2 0), .ref (nu_2 1), .ref (nu_2 2), .int 0])), ((nu_2 0), .inl (gI G, v_1.2.1, .inl v_1.1)), ((nu_2 1), .inl (gI G, v_1.2.1, .inl v_1.2.2.1)), ((nu_2 2), .inl (gI G, v_1.2.1, .inl v_1.2.2.2)), (q18, .inr (1, [.ref (nu_4 0), .ref (nu_4 1), .ref (nu_4 2), .ref (nu_4 3), .int 0])), ((nu_4 0), .inl (gI G, v_3.2.1, .inl v_3.1)), ((nu_4 1), .inl (gI G, v_3.2.1, .inl v_3.2.2.1)), ((nu_4 2), .inl (gI G, v_3.2.1, .inl v_3.2.2.2.1)), ((nu_4 3), .inl (gI G, v_3.2.1, .inl v_3.2.2.2.2)), (q31, .inr (1, [.ref (nu_6 0), .ref (nu_6 1), .ref (nu_6 2), .ref (nu_6 3), .int 0])), ((nu_6 0), .inl (gI G, v_5.2.1, .inl v_5.1)), ((nu_6 1), .inl (gI G, v_5.2.1, .inl v_5.2.2.1)), ((nu_6 2), .inl (gI G, v_5.2.1, .inl v_5.2.2.2.1)), ((nu_6 3), .inl (gI G, v_5.2.1, .inl v_5.2.2.2.2)), (q43, .inr (6, [.int 0, .int 0, .int 0]))] := hD
  refine W.widen (k := 15) (n := 1127) (by omega) (by omega) ?_
  refine lv_dup hx hb dX3_init_46 rfl ?_
  obtain ⟨v_7, hv_7, hF⟩ := bd_s hF
  refine rn_v (wf := (fun (u : Unit) (nu : Nat → Nat) => [(q43, .inr (6, [.int 0, .int 0, .int 0]))])) (wr := [(h0, .inr (3, [.ref q5, .ref q18, .ref q31, .null, .null, .null, .null, .int z0])), (q5, .inr (4, [.ref (nu_2 0), .ref (nu_2 1), .ref (nu_2 2), .int 0])), ((nu_2 0), .inl (gI G, v_1.2.1, .inl v_1.1)), ((nu_2 1), .inl (gI G, v_1.2.1, .inl v_1.2.2.1)), ((nu_2 2), .inl (gI G, v_1.2.1, .inl v_1.2.2.2)), (q18, .inr (1, [.ref (nu_4 0), .ref (nu_4 1), .ref (nu_4 2), .ref (nu_4 3), .int 0])), ((nu_4 0), .inl (gI G, v_3.2.1, .inl v_3.1)), ((nu_4 1), .inl (gI G, v_3.2.1, .inl v_3.2.2.1)), ((nu_4 2), .inl (gI G, v_3.2.1, .inl v_3.2.2.2.1)), ((nu_4 3), .inl (gI G, v_3.2.1, .inl v_3.2.2.2.2)), (q31, .inr (1, [.ref (nu_6 0), .ref (nu_6 1), .ref (nu_6 2), .ref (nu_6 3), .int 0])), ((nu_6 0), .inl (gI G, v_5.2.1, .inl v_5.1)), ((nu_6 1), .inl (gI G, v_5.2.1, .inl v_5.2.2.1)), ((nu_6 2), .inl (gI G, v_5.2.1, .inl v_5.2.2.2.1)), ((nu_6 3), .inl (gI G, v_5.2.1, .inl v_5.2.2.2.2))]) (va_runIN (As := []) (rest := [.ref q43, .ref h0]) ⟨hx, hb, hml, hown, hts⟩ (kX6_init l G q43 H.size 0 0 0 v_7 hv_7) ⟨va_cnB 0 hts gX3_init_X6_init_n32 rfl rfl rfl hN_RX3_32 hini6 (by decide +kernel) ⟨Nat.le_of_ble_eq_true rfl, Nat.le_of_ble_eq_true rfl⟩, rfl, him_X6_init⟩ (psW hK (hP.sub (ws' := [(q43, .inr (6, [.int 0, .int 0, .int 0]))]) [15] rfl) (hD.sub (ws' := [(q43, .inr (6, [.int 0, .int 0, .int 0]))]) [15] (by decide) rfl) ) rfl rfl hl.1 rfl (lv_room (Nat.le_of_ble_eq_true rfl)) dX3_init_47 ⟨Nat.le_of_ble_eq_true rfl, Nat.le_of_ble_eq_true rfl⟩) hP hD hS hA [15] [0, 1, 2, 3, 4, 5, 6, 7, 8, 9, 10, 11, 12, 13, 14] rfl rfl (by decide) (by decide) (fun nu_8 H locs hP hD hS => ?_)
  have hP : va_P (gD G) vwCl [(h0, .inr (3, [.ref q5, .ref q18, .ref q31, .null, .null, .null, .null, .int z0])), (q5, .inr (4, [.ref (nu_2 0), .ref (nu_2 1), .ref (nu_2 2), .int 0])), ((nu_2 0), .inl (gI G, v_1.2.1, .inl v_1.1)), ((nu_2 1), .inl (gI G, v_1.2.1, .inl v_1.2.2.1)), ((nu_2 2), .inl (gI G, v_1.2.1, .inl v_1.2.2.2)), (q18, .inr (1, [.ref (nu_4 0), .ref (nu_4 1), .ref (nu_4 2), .ref (nu_4 3), .int 0])), ((nu_4 0), .inl (gI G, v_3.2.1, .inl v_3.1)), ((nu_4 1), .inl (gI G, v_3.2.1, .inl v_3.2.2.1)), ((nu_4 2), .inl (gI G, v_3.2.1, .inl v_3.2.2.2.1)), ((nu_4 3), .inl (gI G, v_3.2.1, .inl v_3.2.2.2.2)), (q31, .inr (1, [.ref (nu_6 0), .ref (nu_6 1), .ref (nu_6 2), .ref (nu_6 3), .int 0])), ((nu_6 0), .inl (gI G, v_5.2.1, .inl v_5.1)), ((nu_6 1), .inl (gI G, v_5.2.1, .inl v_5.2.2.1)), ((nu_6 2), .inl (gI G, v_5.2.1, .inl v_5.2.2.2.1)), ((nu_6 3), .inl (gI G, v_5.2.1, .inl v_5.2.2.2.2)), (q43, .inr (6, [.int 0, .int 0, .int 0]))] H := hP.sub [0, 1, 2, 3, 4, 5, 6, 7, 8, 9, 10, 11, 12, 13, 14, 15] rfl
  have hD : va_D A [(h0, .inr (3, [.ref q5, .ref q18, .ref q31, .null, .null, .null, .null, .int z0])), (q5, .inr (4, [.ref (nu_2 0), .ref (nu_2 1), .ref (nu_2 2), .int 0])), ((nu_2 0), .inl (gI G, v_1.2.1, .inl v_1.1)), ((nu_2 1), .inl (gI G, v_1.2.1, .inl v_1.2.2.1)), ((nu_2 2), .inl (gI G, v_1.2.1, .inl v_1.2.2.2)), (q18, .inr (1, [.ref (nu_4 0), .ref (nu_4 1), .ref (nu_4 2), .ref (nu_4 3), .int 0])), ((nu_4 0), .inl (gI G, v_3.2.1, .inl v_3.1)), ((nu_4 1), .inl (gI G, v_3.2.1, .inl v_3.2.2.1)), ((nu_4 2), .inl (gI G, v_3.2.1, .inl v_3.2.2.2.1)), ((nu_4 3), .inl (gI G, v_3.2.1, .inl v_3.2.2.2.2)), (q31, .inr (1, [.ref (nu_6 0), .ref (nu_6 1), .ref (nu_6 2), .ref (nu_6 3), .int 0])), ((nu_6 0), .inl (gI G, v_5.2.1, .inl v_5.1)), ((nu_6 1), .inl (gI G, v_5.2.1, .inl v_5.2.2.1)), ((nu_6 2), .inl (gI G, v_5.2.1, .inl v_5.2.2.2.1)), ((nu_6 3), .inl (gI G, v_5.2.1, .inl v_5.2.2.2.2)), (q43, .inr (6, [.int 0, .int 0, .int 0]))] := hD.sub [0, 1, 2, 3, 4, 5, 6, 7, 8, 9, 10, 11, 12, 13, 14, 15] (by decide) rfl
  refine W.widen (k := 15) (n := 1127) (Nat.le_of_ble_eq_true rfl) (Nat.le_of_ble_eq_true rfl) ?_
  refine va_putF (ci := 3) (v := .ref q43) (ty := .object "SwellBodies$Step") (C := RX3) (T := TX3) (N := 8) hx hb hts hin3 tyX3 tyX3_ok nmX3 hown hK hP hD hS 0 rfl rfl 3 (by decide) hfl33 (fun _ h9 => h9) rfl hin rfl (by decide +kernel) rfl rfl (Nat.le_of_ble_eq_true rfl) dX3_init_50 (fun H locs hP hD hS => ?_)
  have hP : va_P (gD G) vwCl [(h0, .inr (3, [.ref q5, .ref q18, .ref q31, .ref q43, .null, .null, .null, .int z0])), (q5, .inr (4, [.ref (nu_2 0), .ref (nu_2 1), .ref (nu_2 2), .int 0])), ((nu_2 0), .inl (gI G, v_1.2.1, .inl v_1.1)), ((nu_2 1), .inl (gI G, v_1.2.1, .inl v_1.2.2.1)), ((nu_2 2), .inl (gI G, v_1.2.1, .inl v_1.2.2.2)), (q18, .inr (1, [.ref (nu_4 0), .ref (nu_4 1), .ref (nu_4 2), .ref (nu_4 3), .int 0])), ((nu_4 0), .inl (gI G, v_3.2.1, .inl v_3.1)), ((nu_4 1), .inl (gI G, v_3.2.1, .inl v_3.2.2.1)), ((nu_4 2), .inl (gI G, v_3.2.1, .inl v_3.2.2.2.1)), ((nu_4 3), .inl (gI G, v_3.2.1, .inl v_3.2.2.2.2)), (q31, .inr (1, [.ref (nu_6 0), .ref (nu_6 1), .ref (nu_6 2), .ref (nu_6 3), .int 0])), ((nu_6 0), .inl (gI G, v_5.2.1, .inl v_5.1)), ((nu_6 1), .inl (gI G, v_5.2.1, .inl v_5.2.2.1)), ((nu_6 2), .inl (gI G, v_5.2.1, .inl v_5.2.2.2.1)), ((nu_6 3), .inl (gI G, v_5.2.1, .inl v_5.2.2.2.2)), (q43, .inr (6, [.int 0, .int 0, .int 0]))] H := hP
  have hD : va_D A [(h0, .inr (3, [.ref q5, .ref q18, .ref q31, .ref q43, .null, .null, .null, .int z0])), (q5, .inr (4, [.ref (nu_2 0), .ref (nu_2 1), .ref (nu_2 2), .int 0])), ((nu_2 0), .inl (gI G, v_1.2.1, .inl v_1.1)), ((nu_2 1), .inl (gI G, v_1.2.1, .inl v_1.2.2.1)), ((nu_2 2), .inl (gI G, v_1.2.1, .inl v_1.2.2.2)), (q18, .inr (1, [.ref (nu_4 0), .ref (nu_4 1), .ref (nu_4 2), .ref (nu_4 3), .int 0])), ((nu_4 0), .inl (gI G, v_3.2.1, .inl v_3.1)), ((nu_4 1), .inl (gI G, v_3.2.1, .inl v_3.2.2.1)), ((nu_4 2), .inl (gI G, v_3.2.1, .inl v_3.2.2.2.1)), ((nu_4 3), .inl (gI G, v_3.2.1, .inl v_3.2.2.2.2)), (q31, .inr (1, [.ref (nu_6 0), .ref (nu_6 1), .ref (nu_6 2), .ref (nu_6 3), .int 0])), ((nu_6 0), .inl (gI G, v_5.2.1, .inl v_5.1)), ((nu_6 1), .inl (gI G, v_5.2.1, .inl v_5.2.2.1)), ((nu_6 2), .inl (gI G, v_5.2.1, .inl v_5.2.2.2.1)), ((nu_6 3), .inl (gI G, v_5.2.1, .inl v_5.2.2.2.2)), (q43, .inr (6, [.int 0, .int 0, .int 0]))] := hD
  refine lv_aload_n hx hb dX3_init_53 rfl (lv_at hl 0 rfl) ?_
  refine va_new (ci := 6) (fs := [.int 0, .int 0, .int 0]) (C := RX6) (T := TX6) (N := 3) hx hb hts hin6 tyX6 tyX6_ok hown hcl30 hins6 hini6 hK hP hD hS hA rfl (fun j hj => by rcases (show j = 0 ∨ j = 1 ∨ j = 2 by omega) with rfl | rfl | rfl <;> rfl) (Nat.le_of_ble_eq_true rfl) (Nat.le_of_ble_eq_true rfl) dX3_init_54 (fun q54 H hP hD hS => ?_)
  have hP : va_P (gD G) vwCl [(h0, .inr (3, [.ref q5, .ref q18, .ref q31, .ref q43, .null, .null, .null, .int z0])), (q5, .inr (4, [.ref (nu_2 0), .ref (nu_2 1), .ref (nu_2 2), .int 0])), ((nu_2 0), .inl (gI G, v_1.2.1, .inl v_1.1)), ((nu_2 1), .inl (gI G, v_1.2.1, .inl v_1.2.2.1)), ((nu_2 2), .inl (gI G, v_1.2.1, .inl v_1.2.2.2)), (q18, .inr (1, [.ref (nu_4 0), .ref (nu_4 1), .ref (nu_4 2), .ref (nu_4 3), .int 0])), ((nu_4 0), .inl (gI G, v_3.2.1, .inl v_3.1)), ((nu_4 1), .inl (gI G, v_3.2.1, .inl v_3.2.2.1)), ((nu_4 2), .inl (gI G, v_3.2.1, .inl v_3.2.2.2.1)), ((nu_4 3), .inl (gI G, v_3.2.1, .inl v_3.2.2.2.2)), (q31, .inr (1, [.ref (nu_6 0), .ref (nu_6 1), .ref (nu_6 2), .ref (nu_6 3), .int 0])), ((nu_6 0), .inl (gI G, v_5.2.1, .inl v_5.1)), ((nu_6 1), .inl (gI G, v_5.2.1, .inl v_5.2.2.1)), ((nu_6 2), .inl (gI G, v_5.2.1, .inl v_5.2.2.2.1)), ((nu_6 3), .inl (gI G, v_5.2.1, .inl v_5.2.2.2.2)), (q43, .inr (6, [.int 0, .int 0, .int 0])), (q54, .inr (6, [.int 0, .int 0, .int 0]))] H := hP
  have hD : va_D A [(h0, .inr (3, [.ref q5, .ref q18, .ref q31, .ref q43, .null, .null, .null, .int z0])), (q5, .inr (4, [.ref (nu_2 0), .ref (nu_2 1), .ref (nu_2 2), .int 0])), ((nu_2 0), .inl (gI G, v_1.2.1, .inl v_1.1)), ((nu_2 1), .inl (gI G, v_1.2.1, .inl v_1.2.2.1)), ((nu_2 2), .inl (gI G, v_1.2.1, .inl v_1.2.2.2)), (q18, .inr (1, [.ref (nu_4 0), .ref (nu_4 1), .ref (nu_4 2), .ref (nu_4 3), .int 0])), ((nu_4 0), .inl (gI G, v_3.2.1, .inl v_3.1)), ((nu_4 1), .inl (gI G, v_3.2.1, .inl v_3.2.2.1)), ((nu_4 2), .inl (gI G, v_3.2.1, .inl v_3.2.2.2.1)), ((nu_4 3), .inl (gI G, v_3.2.1, .inl v_3.2.2.2.2)), (q31, .inr (1, [.ref (nu_6 0), .ref (nu_6 1), .ref (nu_6 2), .ref (nu_6 3), .int 0])), ((nu_6 0), .inl (gI G, v_5.2.1, .inl v_5.1)), ((nu_6 1), .inl (gI G, v_5.2.1, .inl v_5.2.2.1)), ((nu_6 2), .inl (gI G, v_5.2.1, .inl v_5.2.2.2.1)), ((nu_6 3), .inl (gI G, v_5.2.1, .inl v_5.2.2.2.2)), (q43, .inr (6, [.int 0, .int 0, .int 0])), (q54, .inr (6, [.int 0, .int 0, .int 0]))] := hD
  refine W.widen (k := 16) (n := 1130) (by omega) (by omega) ?_
  refine lv_dup hx hb dX3_init_57 rfl ?_
  obtain ⟨v_9, hv_9, hF⟩ := bd_s hF
  refine rn_v (wf := (fun (u : Unit) (nu : Nat → Nat) => [(q54, .inr (6, [.int 0, .int 0, .int 0]))])) (wr := [(h0, .inr (3, [.ref q5, .ref q18, .ref q31, .ref q43, .null, .null, .null, .int z0])), (q5, .inr (4, [.ref (nu_2 0), .ref (nu_2 1), .ref (nu_2 2), .int 0])), ((nu_2 0), .inl (gI G, v_1.2.1, .inl v_1.1)), ((nu_2 1), .inl (gI G, v_1.2.1, .inl v_1.2.2.1)), ((nu_2 2), .inl (gI G, v_1.2.1, .inl v_1.2.2.2)), (q18, .inr (1, [.ref (nu_4 0), .ref (nu_4 1), .ref (nu_4 2), .ref (nu_4 3), .int 0])), ((nu_4 0), .inl (gI G, v_3.2.1, .inl v_3.1)), ((nu_4 1), .inl (gI G, v_3.2.1, .inl v_3.2.2.1)), ((nu_4 2), .inl (gI G, v_3.2.1, .inl v_3.2.2.2.1)), ((nu_4 3), .inl (gI G, v_3.2.1, .inl v_3.2.2.2.2)), (q31, .inr (1, [.ref (nu_6 0), .ref (nu_6 1), .ref (nu_6 2), .ref (nu_6 3), .int 0])), ((nu_6 0), .inl (gI G, v_5.2.1, .inl v_5.1)), ((nu_6 1), .inl (gI G, v_5.2.1, .inl v_5.2.2.1)), ((nu_6 2), .inl (gI G, v_5.2.1, .inl v_5.2.2.2.1)), ((nu_6 3), .inl (gI G, v_5.2.1, .inl v_5.2.2.2.2)), (q43, .inr (6, [.int 0, .int 0, .int 0]))]) (va_runIN (As := []) (rest := [.ref q54, .ref h0]) ⟨hx, hb, hml, hown, hts⟩ (kX6_init l G q54 H.size 0 0 0 v_9 hv_9) ⟨va_cnB 0 hts gX3_init_X6_init_n32 rfl rfl rfl hN_RX3_32 hini6 (by decide +kernel) ⟨Nat.le_of_ble_eq_true rfl, Nat.le_of_ble_eq_true rfl⟩, rfl, him_X6_init⟩ (psW hK (hP.sub (ws' := [(q54, .inr (6, [.int 0, .int 0, .int 0]))]) [16] rfl) (hD.sub (ws' := [(q54, .inr (6, [.int 0, .int 0, .int 0]))]) [16] (by decide) rfl) ) rfl rfl hl.1 rfl (lv_room (Nat.le_of_ble_eq_true rfl)) dX3_init_58 ⟨Nat.le_of_ble_eq_true rfl, Nat.le_of_ble_eq_true rfl⟩) hP hD hS hA [16] [0, 1, 2, 3, 4, 5, 6, 7, 8, 9, 10, 11, 12, 13, 14, 15] rfl rfl (by decide) (by decide) (fun nu_10 H locs hP hD hS => ?_)
  have hP : va_P (gD G) vwCl [(h0, .inr (3, [.ref q5, .ref q18, .ref q31, .ref q43, .null, .null, .null, .int z0])), (q5, .inr (4, [.ref (nu_2 0), .ref (nu_2 1), .ref (nu_2 2), .int 0])), ((nu_2 0), .inl (gI G, v_1.2.1, .inl v_1.1)), ((nu_2 1), .inl (gI G, v_1.2.1, .inl v_1.2.2.1)), ((nu_2 2), .inl (gI G, v_1.2.1, .inl v_1.2.2.2)), (q18, .inr (1, [.ref (nu_4 0), .ref (nu_4 1), .ref (nu_4 2), .ref (nu_4 3), .int 0])), ((nu_4 0), .inl (gI G, v_3.2.1, .inl v_3.1)), ((nu_4 1), .inl (gI G, v_3.2.1, .inl v_3.2.2.1)), ((nu_4 2), .inl (gI G, v_3.2.1, .inl v_3.2.2.2.1)), ((nu_4 3), .inl (gI G, v_3.2.1, .inl v_3.2.2.2.2)), (q31, .inr (1, [.ref (nu_6 0), .ref (nu_6 1), .ref (nu_6 2), .ref (nu_6 3), .int 0])), ((nu_6 0), .inl (gI G, v_5.2.1, .inl v_5.1)), ((nu_6 1), .inl (gI G, v_5.2.1, .inl v_5.2.2.1)), ((nu_6 2), .inl (gI G, v_5.2.1, .inl v_5.2.2.2.1)), ((nu_6 3), .inl (gI G, v_5.2.1, .inl v_5.2.2.2.2)), (q43, .inr (6, [.int 0, .int 0, .int 0])), (q54, .inr (6, [.int 0, .int 0, .int 0]))] H := hP.sub [0, 1, 2, 3, 4, 5, 6, 7, 8, 9, 10, 11, 12, 13, 14, 15, 16] rfl
  have hD : va_D A [(h0, .inr (3, [.ref q5, .ref q18, .ref q31, .ref q43, .null, .null, .null, .int z0])), (q5, .inr (4, [.ref (nu_2 0), .ref (nu_2 1), .ref (nu_2 2), .int 0])), ((nu_2 0), .inl (gI G, v_1.2.1, .inl v_1.1)), ((nu_2 1), .inl (gI G, v_1.2.1, .inl v_1.2.2.1)), ((nu_2 2), .inl (gI G, v_1.2.1, .inl v_1.2.2.2)), (q18, .inr (1, [.ref (nu_4 0), .ref (nu_4 1), .ref (nu_4 2), .ref (nu_4 3), .int 0])), ((nu_4 0), .inl (gI G, v_3.2.1, .inl v_3.1)), ((nu_4 1), .inl (gI G, v_3.2.1, .inl v_3.2.2.1)), ((nu_4 2), .inl (gI G, v_3.2.1, .inl v_3.2.2.2.1)), ((nu_4 3), .inl (gI G, v_3.2.1, .inl v_3.2.2.2.2)), (q31, .inr (1, [.ref (nu_6 0), .ref (nu_6 1), .ref (nu_6 2), .ref (nu_6 3), .int 0])), ((nu_6 0), .inl (gI G, v_5.2.1, .inl v_5.1)), ((nu_6 1), .inl (gI G, v_5.2.1, .inl v_5.2.2.1)), ((nu_6 2), .inl (gI G, v_5.2.1, .inl v_5.2.2.2.1)), ((nu_6 3), .inl (gI G, v_5.2.1, .inl v_5.2.2.2.2)), (q43, .inr (6, [.int 0, .int 0, .int 0])), (q54, .inr (6, [.int 0, .int 0, .int 0]))] := hD.sub [0, 1, 2, 3, 4, 5, 6, 7, 8, 9, 10, 11, 12, 13, 14, 15, 16] (by decide) rfl
  refine W.widen (k := 16) (n := 1130) (Nat.le_of_ble_eq_true rfl) (Nat.le_of_ble_eq_true rfl) ?_
  refine va_putF (ci := 3) (v := .ref q54) (ty := .object "SwellBodies$Step") (C := RX3) (T := TX3) (N := 8) hx hb hts hin3 tyX3 tyX3_ok nmX3 hown hK hP hD hS 0 rfl rfl 4 (by decide) hfl37 (fun _ h9 => h9) rfl hin rfl (by decide +kernel) rfl rfl (Nat.le_of_ble_eq_true rfl) dX3_init_61 (fun H locs hP hD hS => ?_)
  have hP : va_P (gD G) vwCl [(h0, .inr (3, [.ref q5, .ref q18, .ref q31, .ref q43, .ref q54, .null, .null, .int z0])), (q5, .inr (4, [.ref (nu_2 0), .ref (nu_2 1), .ref (nu_2 2), .int 0])), ((nu_2 0), .inl (gI G, v_1.2.1, .inl v_1.1)), ((nu_2 1), .inl (gI G, v_1.2.1, .inl v_1.2.2.1)), ((nu_2 2), .inl (gI G, v_1.2.1, .inl v_1.2.2.2)), (q18, .inr (1, [.ref (nu_4 0), .ref (nu_4 1), .ref (nu_4 2), .ref (nu_4 3), .int 0])), ((nu_4 0), .inl (gI G, v_3.2.1, .inl v_3.1)), ((nu_4 1), .inl (gI G, v_3.2.1, .inl v_3.2.2.1)), ((nu_4 2), .inl (gI G, v_3.2.1, .inl v_3.2.2.2.1)), ((nu_4 3), .inl (gI G, v_3.2.1, .inl v_3.2.2.2.2)), (q31, .inr (1, [.ref (nu_6 0), .ref (nu_6 1), .ref (nu_6 2), .ref (nu_6 3), .int 0])), ((nu_6 0), .inl (gI G, v_5.2.1, .inl v_5.1)), ((nu_6 1), .inl (gI G, v_5.2.1, .inl v_5.2.2.1)), ((nu_6 2), .inl (gI G, v_5.2.1, .inl v_5.2.2.2.1)), ((nu_6 3), .inl (gI G, v_5.2.1, .inl v_5.2.2.2.2)), (q43, .inr (6, [.int 0, .int 0, .int 0])), (q54, .inr (6, [.int 0, .int 0, .int 0]))] H := hP
  have hD : va_D A [(h0, .inr (3, [.ref q5, .ref q18, .ref q31, .ref q43, .ref q54, .null, .null, .int z0])), (q5, .inr (4, [.ref (nu_2 0), .ref (nu_2 1), .ref (nu_2 2), .int 0])), ((nu_2 0), .inl (gI G, v_1.2.1, .inl v_1.1)), ((nu_2 1), .inl (gI G, v_1.2.1, .inl v_1.2.2.1)), ((nu_2 2), .inl (gI G, v_1.2.1, .inl v_1.2.2.2)), (q18, .inr (1, [.ref (nu_4 0), .ref (nu_4 1), .ref (nu_4 2), .ref (nu_4 3), .int 0])), ((nu_4 0), .inl (gI G, v_3.2.1, .inl v_3.1)), ((nu_4 1), .inl (gI G, v_3.2.1, .inl v_3.2.2.1)), ((nu_4 2), .inl (gI G, v_3.2.1, .inl v_3.2.2.2.1)), ((nu_4 3), .inl (gI G, v_3.2.1, .inl v_3.2.2.2.2)), (q31, .inr (1, [.ref (nu_6 0), .ref (nu_6 1), .ref (nu_6 2), .ref (nu_6 3), .int 0])), ((nu_6 0), .inl (gI G, v_5.2.1, .inl v_5.1)), ((nu_6 1), .inl (gI G, v_5.2.1, .inl v_5.2.2.1)), ((nu_6 2), .inl (gI G, v_5.2.1, .inl v_5.2.2.2.1)), ((nu_6 3), .inl (gI G, v_5.2.1, .inl v_5.2.2.2.2)), (q43, .inr (6, [.int 0, .int 0, .int 0])), (q54, .inr (6, [.int 0, .int 0, .int 0]))] := hD
  refine lv_aload_n hx hb dX3_init_64 rfl (lv_at hl 0 rfl) ?_
  refine va_new (ci := 6) (fs := [.int 0, .int 0, .int 0]) (C := RX6) (T := TX6) (N := 3) hx hb hts hin6 tyX6 tyX6_ok hown hcl30 hins6 hini6 hK hP hD hS hA rfl (fun j hj => by rcases (show j = 0 ∨ j = 1 ∨ j = 2 by omega) with rfl | rfl | rfl <;> rfl) (Nat.le_of_ble_eq_true rfl) (Nat.le_of_ble_eq_true rfl) dX3_init_65 (fun q65 H hP hD hS => ?_)
  have hP : va_P (gD G) vwCl [(h0, .inr (3, [.ref q5, .ref q18, .ref q31, .ref q43, .ref q54, .null, .null, .int z0])), (q5, .inr (4, [.ref (nu_2 0), .ref (nu_2 1), .ref (nu_2 2), .int 0])), ((nu_2 0), .inl (gI G, v_1.2.1, .inl v_1.1)), ((nu_2 1), .inl (gI G, v_1.2.1, .inl v_1.2.2.1)), ((nu_2 2), .inl (gI G, v_1.2.1, .inl v_1.2.2.2)), (q18, .inr (1, [.ref (nu_4 0), .ref (nu_4 1), .ref (nu_4 2), .ref (nu_4 3), .int 0])), ((nu_4 0), .inl (gI G, v_3.2.1, .inl v_3.1)), ((nu_4 1), .inl (gI G, v_3.2.1, .inl v_3.2.2.1)), ((nu_4 2), .inl (gI G, v_3.2.1, .inl v_3.2.2.2.1)), ((nu_4 3), .inl (gI G, v_3.2.1, .inl v_3.2.2.2.2)), (q31, .inr (1, [.ref (nu_6 0), .ref (nu_6 1), .ref (nu_6 2), .ref (nu_6 3), .int 0])), ((nu_6 0), .inl (gI G, v_5.2.1, .inl v_5.1)), ((nu_6 1), .inl (gI G, v_5.2.1, .inl v_5.2.2.1)), ((nu_6 2), .inl (gI G, v_5.2.1, .inl v_5.2.2.2.1)), ((nu_6 3), .inl (gI G, v_5.2.1, .inl v_5.2.2.2.2)), (q43, .inr (6, [.int 0, .int 0, .int 0])), (q54, .inr (6, [.int 0, .int 0, .int 0])), (q65, .inr (6, [.int 0, .int 0, .int 0]))] H := hP
  have hD : va_D A [(h0, .inr (3, [.ref q5, .ref q18, .ref q31, .ref q43, .ref q54, .null, .null, .int z0])), (q5, .inr (4, [.ref (nu_2 0), .ref (nu_2 1), .ref (nu_2 2), .int 0])), ((nu_2 0), .inl (gI G, v_1.2.1, .inl v_1.1)), ((nu_2 1), .inl (gI G, v_1.2.1, .inl v_1.2.2.1)), ((nu_2 2), .inl (gI G, v_1.2.1, .inl v_1.2.2.2)), (q18, .inr (1, [.ref (nu_4 0), .ref (nu_4 1), .ref (nu_4 2), .ref (nu_4 3), .int 0])), ((nu_4 0), .inl (gI G, v_3.2.1, .inl v_3.1)), ((nu_4 1), .inl (gI G, v_3.2.1, .inl v_3.2.2.1)), ((nu_4 2), .inl (gI G, v_3.2.1, .inl v_3.2.2.2.1)), ((nu_4 3), .inl (gI G, v_3.2.1, .inl v_3.2.2.2.2)), (q31, .inr (1, [.ref (nu_6 0), .ref (nu_6 1), .ref (nu_6 2), .ref (nu_6 3), .int 0])), ((nu_6 0), .inl (gI G, v_5.2.1, .inl v_5.1)), ((nu_6 1), .inl (gI G, v_5.2.1, .inl v_5.2.2.1)), ((nu_6 2), .inl (gI G, v_5.2.1, .inl v_5.2.2.2.1)), ((nu_6 3), .inl (gI G, v_5.2.1, .inl v_5.2.2.2.2)), (q43, .inr (6, [.int 0, .int 0, .int 0])), (q54, .inr (6, [.int 0, .int 0, .int 0])), (q65, .inr (6, [.int 0, .int 0, .int 0]))] := hD
  refine W.widen (k := 17) (n := 1133) (by omega) (by omega) ?_
  refine lv_dup hx hb dX3_init_68 rfl ?_
  obtain ⟨v_11, hv_11, hF⟩ := bd_s hF
  refine rn_v (wf := (fun (u : Unit) (nu : Nat → Nat) => [(q65, .inr (6, [.int 0, .int 0, .int 0]))])) (wr := [(h0, .inr (3, [.ref q5, .ref q18, .ref q31, .ref q43, .ref q54, .null, .null, .int z0])), (q5, .inr (4, [.ref (nu_2 0), .ref (nu_2 1), .ref (nu_2 2), .int 0])), ((nu_2 0), .inl (gI G, v_1.2.1, .inl v_1.1)), ((nu_2 1), .inl (gI G, v_1.2.1, .inl v_1.2.2.1)), ((nu_2 2), .inl (gI G, v_1.2.1, .inl v_1.2.2.2)), (q18, .inr (1, [.ref (nu_4 0), .ref (nu_4 1), .ref (nu_4 2), .ref (nu_4 3), .int 0])), ((nu_4 0), .inl (gI G, v_3.2.1, .inl v_3.1)), ((nu_4 1), .inl (gI G, v_3.2.1, .inl v_3.2.2.1)), ((nu_4 2), .inl (gI G, v_3.2.1, .inl v_3.2.2.2.1)), ((nu_4 3), .inl (gI G, v_3.2.1, .inl v_3.2.2.2.2)), (q31, .inr (1, [.ref (nu_6 0), .ref (nu_6 1), .ref (nu_6 2), .ref (nu_6 3), .int 0])), ((nu_6 0), .inl (gI G, v_5.2.1, .inl v_5.1)), ((nu_6 1), .inl (gI G, v_5.2.1, .inl v_5.2.2.1)), ((nu_6 2), .inl (gI G, v_5.2.1, .inl v_5.2.2.2.1)), ((nu_6 3), .inl (gI G, v_5.2.1, .inl v_5.2.2.2.2)), (q43, .inr (6, [.int 0, .int 0, .int 0])), (q54, .inr (6, [.int 0, .int 0, .int 0]))]) (va_runIN (As := []) (rest := [.ref q65, .ref h0]) ⟨hx, hb, hml, hown, hts⟩ (kX6_init l G q65 H.size 0 0 0 v_11 hv_11) ⟨va_cnB 0 hts gX3_init_X6_init_n32 rfl rfl rfl hN_RX3_32 hini6 (by decide +kernel) ⟨Nat.le_of_ble_eq_true rfl, Nat.le_of_ble_eq_true rfl⟩, rfl, him_X6_init⟩ (psW hK (hP.sub (ws' := [(q65, .inr (6, [.int 0, .int 0, .int 0]))]) [17] rfl) (hD.sub (ws' := [(q65, .inr (6, [.int 0, .int 0, .int 0]))]) [17] (by decide) rfl) ) rfl rfl hl.1 rfl (lv_room (Nat.le_of_ble_eq_true rfl)) dX3_init_69 ⟨Nat.le_of_ble_eq_true rfl, Nat.le_of_ble_eq_true rfl⟩) hP hD hS hA [17] [0, 1, 2, 3, 4, 5, 6, 7, 8, 9, 10, 11, 12, 13, 14, 15, 16] rfl rfl (by decide) (by decide) (fun nu_12 H locs hP hD hS => ?_)
  have hP : va_P (gD G) vwCl [(h0, .inr (3, [.ref q5, .ref q18, .ref q31, .ref q43, .ref q54, .null, .null, .int z0])), (q5, .inr (4, [.ref (nu_2 0), .ref (nu_2 1), .ref (nu_2 2), .int 0])), ((nu_2 0), .inl (gI G, v_1.2.1, .inl v_1.1)), ((nu_2 1), .inl (gI G, v_1.2.1, .inl v_1.2.2.1)), ((nu_2 2), .inl (gI G, v_1.2.1, .inl v_1.2.2.2)), (q18, .inr (1, [.ref (nu_4 0), .ref (nu_4 1), .ref (nu_4 2), .ref (nu_4 3), .int 0])), ((nu_4 0), .inl (gI G, v_3.2.1, .inl v_3.1)), ((nu_4 1), .inl (gI G, v_3.2.1, .inl v_3.2.2.1)), ((nu_4 2), .inl (gI G, v_3.2.1, .inl v_3.2.2.2.1)), ((nu_4 3), .inl (gI G, v_3.2.1, .inl v_3.2.2.2.2)), (q31, .inr (1, [.ref (nu_6 0), .ref (nu_6 1), .ref (nu_6 2), .ref (nu_6 3), .int 0])), ((nu_6 0), .inl (gI G, v_5.2.1, .inl v_5.1)), ((nu_6 1), .inl (gI G, v_5.2.1, .inl v_5.2.2.1)), ((nu_6 2), .inl (gI G, v_5.2.1, .inl v_5.2.2.2.1)), ((nu_6 3), .inl (gI G, v_5.2.1, .inl v_5.2.2.2.2)), (q43, .inr (6, [.int 0, .int 0, .int 0])), (q54, .inr (6, [.int 0, .int 0, .int 0])), (q65, .inr (6, [.int 0, .int 0, .int 0]))] H := hP.sub [0, 1, 2, 3, 4, 5, 6, 7, 8, 9, 10, 11, 12, 13, 14, 15, 16, 17] rfl
  have hD : va_D A [(h0, .inr (3, [.ref q5, .ref q18, .ref q31, .ref q43, .ref q54, .null, .null, .int z0])), (q5, .inr (4, [.ref (nu_2 0), .ref (nu_2 1), .ref (nu_2 2), .int 0])), ((nu_2 0), .inl (gI G, v_1.2.1, .inl v_1.1)), ((nu_2 1), .inl (gI G, v_1.2.1, .inl v_1.2.2.1)), ((nu_2 2), .inl (gI G, v_1.2.1, .inl v_1.2.2.2)), (q18, .inr (1, [.ref (nu_4 0), .ref (nu_4 1), .ref (nu_4 2), .ref (nu_4 3), .int 0])), ((nu_4 0), .inl (gI G, v_3.2.1, .inl v_3.1)), ((nu_4 1), .inl (gI G, v_3.2.1, .inl v_3.2.2.1)), ((nu_4 2), .inl (gI G, v_3.2.1, .inl v_3.2.2.2.1)), ((nu_4 3), .inl (gI G, v_3.2.1, .inl v_3.2.2.2.2)), (q31, .inr (1, [.ref (nu_6 0), .ref (nu_6 1), .ref (nu_6 2), .ref (nu_6 3), .int 0])), ((nu_6 0), .inl (gI G, v_5.2.1, .inl v_5.1)), ((nu_6 1), .inl (gI G, v_5.2.1, .inl v_5.2.2.1)), ((nu_6 2), .inl (gI G, v_5.2.1, .inl v_5.2.2.2.1)), ((nu_6 3), .inl (gI G, v_5.2.1, .inl v_5.2.2.2.2)), (q43, .inr (6, [.int 0, .int 0, .int 0])), (q54, .inr (6, [.int 0, .int 0, .int 0])), (q65, .inr (6, [.int 0, .int 0, .int 0]))] := hD.sub [0, 1, 2, 3, 4, 5, 6, 7, 8, 9, 10, 11, 12, 13, 14, 15, 16, 17] (by decide) rfl
  refine W.widen (k := 17) (n := 1133) (Nat.le_of_ble_eq_true rfl) (Nat.le_of_ble_eq_true rfl) ?_
  refine va_putF (ci := 3) (v := .ref q65) (ty := .object "SwellBodies$Step") (C := RX3) (T := TX3) (N := 8) hx hb hts hin3 tyX3 tyX3_ok nmX3 hown hK hP hD hS 0 rfl rfl 5 (by decide) hfl40 (fun _ h9 => h9) rfl hin rfl (by decide +kernel) rfl rfl (Nat.le_of_ble_eq_true rfl) dX3_init_72 (fun H locs hP hD hS => ?_)
  have hP : va_P (gD G) vwCl [(h0, .inr (3, [.ref q5, .ref q18, .ref q31, .ref q43, .ref q54, .ref q65, .null, .int z0])), (q5, .inr (4, [.ref (nu_2 0), .ref (nu_2 1), .ref (nu_2 2), .int 0])), ((nu_2 0), .inl (gI G, v_1.2.1, .inl v_1.1)), ((nu_2 1), .inl (gI G, v_1.2.1, .inl v_1.2.2.1)), ((nu_2 2), .inl (gI G, v_1.2.1, .inl v_1.2.2.2)), (q18, .inr (1, [.ref (nu_4 0), .ref (nu_4 1), .ref (nu_4 2), .ref (nu_4 3), .int 0])), ((nu_4 0), .inl (gI G, v_3.2.1, .inl v_3.1)), ((nu_4 1), .inl (gI G, v_3.2.1, .inl v_3.2.2.1)), ((nu_4 2), .inl (gI G, v_3.2.1, .inl v_3.2.2.2.1)), ((nu_4 3), .inl (gI G, v_3.2.1, .inl v_3.2.2.2.2)), (q31, .inr (1, [.ref (nu_6 0), .ref (nu_6 1), .ref (nu_6 2), .ref (nu_6 3), .int 0])), ((nu_6 0), .inl (gI G, v_5.2.1, .inl v_5.1)), ((nu_6 1), .inl (gI G, v_5.2.1, .inl v_5.2.2.1)), ((nu_6 2), .inl (gI G, v_5.2.1, .inl v_5.2.2.2.1)), ((nu_6 3), .inl (gI G, v_5.2.1, .inl v_5.2.2.2.2)), (q43, .inr (6, [.int 0, .int 0, .int 0])), (q54, .inr (6, [.int 0, .int 0, .int 0])), (q65, .inr (6, [.int 0, .int 0, .int 0]))] H := hP
  have hD : va_D A [(h0, .inr (3, [.ref q5, .ref q18, .ref q31, .ref q43, .ref q54, .ref q65, .null, .int z0])), (q5, .inr (4, [.ref (nu_2 0), .ref (nu_2 1), .ref (nu_2 2), .int 0])), ((nu_2 0), .inl (gI G, v_1.2.1, .inl v_1.1)), ((nu_2 1), .inl (gI G, v_1.2.1, .inl v_1.2.2.1)), ((nu_2 2), .inl (gI G, v_1.2.1, .inl v_1.2.2.2)), (q18, .inr (1, [.ref (nu_4 0), .ref (nu_4 1), .ref (nu_4 2), .ref (nu_4 3), .int 0])), ((nu_4 0), .inl (gI G, v_3.2.1, .inl v_3.1)), ((nu_4 1), .inl (gI G, v_3.2.1, .inl v_3.2.2.1)), ((nu_4 2), .inl (gI G, v_3.2.1, .inl v_3.2.2.2.1)), ((nu_4 3), .inl (gI G, v_3.2.1, .inl v_3.2.2.2.2)), (q31, .inr (1, [.ref (nu_6 0), .ref (nu_6 1), .ref (nu_6 2), .ref (nu_6 3), .int 0])), ((nu_6 0), .inl (gI G, v_5.2.1, .inl v_5.1)), ((nu_6 1), .inl (gI G, v_5.2.1, .inl v_5.2.2.1)), ((nu_6 2), .inl (gI G, v_5.2.1, .inl v_5.2.2.2.1)), ((nu_6 3), .inl (gI G, v_5.2.1, .inl v_5.2.2.2.2)), (q43, .inr (6, [.int 0, .int 0, .int 0])), (q54, .inr (6, [.int 0, .int 0, .int 0])), (q65, .inr (6, [.int 0, .int 0, .int 0]))] := hD
  refine lv_aload_n hx hb dX3_init_75 rfl (lv_at hl 0 rfl) ?_
  refine va_new (ci := 6) (fs := [.int 0, .int 0, .int 0]) (C := RX6) (T := TX6) (N := 3) hx hb hts hin6 tyX6 tyX6_ok hown hcl30 hins6 hini6 hK hP hD hS hA rfl (fun j hj => by rcases (show j = 0 ∨ j = 1 ∨ j = 2 by omega) with rfl | rfl | rfl <;> rfl) (Nat.le_of_ble_eq_true rfl) (Nat.le_of_ble_eq_true rfl) dX3_init_76 (fun q76 H hP hD hS => ?_)
  have hP : va_P (gD G) vwCl [(h0, .inr (3, [.ref q5, .ref q18, .ref q31, .ref q43, .ref q54, .ref q65, .null, .int z0])), (q5, .inr (4, [.ref (nu_2 0), .ref (nu_2 1), .ref (nu_2 2), .int 0])), ((nu_2 0), .inl (gI G, v_1.2.1, .inl v_1.1)), ((nu_2 1), .inl (gI G, v_1.2.1, .inl v_1.2.2.1)), ((nu_2 2), .inl (gI G, v_1.2.1, .inl v_1.2.2.2)), (q18, .inr (1, [.ref (nu_4 0), .ref (nu_4 1), .ref (nu_4 2), .ref (nu_4 3), .int 0])), ((nu_4 0), .inl (gI G, v_3.2.1, .inl v_3.1)), ((nu_4 1), .inl (gI G, v_3.2.1, .inl v_3.2.2.1)), ((nu_4 2), .inl (gI G, v_3.2.1, .inl v_3.2.2.2.1)), ((nu_4 3), .inl (gI G, v_3.2.1, .inl v_3.2.2.2.2)), (q31, .inr (1, [.ref (nu_6 0), .ref (nu_6 1), .ref (nu_6 2), .ref (nu_6 3), .int 0])), ((nu_6 0), .inl (gI G, v_5.2.1, .inl v_5.1)), ((nu_6 1), .inl (gI G, v_5.2.1, .inl v_5.2.2.1)), ((nu_6 2), .inl (gI G, v_5.2.1, .inl v_5.2.2.2.1)), ((nu_6 3), .inl (gI G, v_5.2.1, .inl v_5.2.2.2.2)), (q43, .inr (6, [.int 0, .int 0, .int 0])), (q54, .inr (6, [.int 0, .int 0, .int 0])), (q65, .inr (6, [.int 0, .int 0, .int 0])), (q76, .inr (6, [.int 0, .int 0, .int 0]))] H := hP
  have hD : va_D A [(h0, .inr (3, [.ref q5, .ref q18, .ref q31, .ref q43, .ref q54, .ref q65, .null, .int z0])), (q5, .inr (4, [.ref (nu_2 0), .ref (nu_2 1), .ref (nu_2 2), .int 0])), ((nu_2 0), .inl (gI G, v_1.2.1, .inl v_1.1)), ((nu_2 1), .inl (gI G, v_1.2.1, .inl v_1.2.2.1)), ((nu_2 2), .inl (gI G, v_1.2.1, .inl v_1.2.2.2)), (q18, .inr (1, [.ref (nu_4 0), .ref (nu_4 1), .ref (nu_4 2), .ref (nu_4 3), .int 0])), ((nu_4 0), .inl (gI G, v_3.2.1, .inl v_3.1)), ((nu_4 1), .inl (gI G, v_3.2.1, .inl v_3.2.2.1)), ((nu_4 2), .inl (gI G, v_3.2.1, .inl v_3.2.2.2.1)), ((nu_4 3), .inl (gI G, v_3.2.1, .inl v_3.2.2.2.2)), (q31, .inr (1, [.ref (nu_6 0), .ref (nu_6 1), .ref (nu_6 2), .ref (nu_6 3), .int 0])), ((nu_6 0), .inl (gI G, v_5.2.1, .inl v_5.1)), ((nu_6 1), .inl (gI G, v_5.2.1, .inl v_5.2.2.1)), ((nu_6 2), .inl (gI G, v_5.2.1, .inl v_5.2.2.2.1)), ((nu_6 3), .inl (gI G, v_5.2.1, .inl v_5.2.2.2.2)), (q43, .inr (6, [.int 0, .int 0, .int 0])), (q54, .inr (6, [.int 0, .int 0, .int 0])), (q65, .inr (6, [.int 0, .int 0, .int 0])), (q76, .inr (6, [.int 0, .int 0, .int 0]))] := hD
  refine W.widen (k := 18) (n := 1136) (by omega) (by omega) ?_
  refine lv_dup hx hb dX3_init_79 rfl ?_
  obtain ⟨v_13, hv_13, hF⟩ := bd_s hF
  refine rn_v (wf := (fun (u : Unit) (nu : Nat → Nat) => [(q76, .inr (6, [.int 0, .int 0, .int 0]))])) (wr := [(h0, .inr (3, [.ref q5, .ref q18, .ref q31, .ref q43, .ref q54, .ref q65, .null, .int z0])), (q5, .inr (4, [.ref (nu_2 0), .ref (nu_2 1), .ref (nu_2 2), .int 0])), ((nu_2 0), .inl (gI G, v_1.2.1, .inl v_1.1)), ((nu_2 1), .inl (gI G, v_1.2.1, .inl v_1.2.2.1)), ((nu_2 2), .inl (gI G, v_1.2.1, .inl v_1.2.2.2)), (q18, .inr (1, [.ref (nu_4 0), .ref (nu_4 1), .ref (nu_4 2), .ref (nu_4 3), .int 0])), ((nu_4 0), .inl (gI G, v_3.2.1, .inl v_3.1)), ((nu_4 1), .inl (gI G, v_3.2.1, .inl v_3.2.2.1)), ((nu_4 2), .inl (gI G, v_3.2.1, .inl v_3.2.2.2.1)), ((nu_4 3), .inl (gI G, v_3.2.1, .inl v_3.2.2.2.2)), (q31, .inr (1, [.ref (nu_6 0), .ref (nu_6 1), .ref (nu_6 2), .ref (nu_6 3), .int 0])), ((nu_6 0), .inl (gI G, v_5.2.1, .inl v_5.1)), ((nu_6 1), .inl (gI G, v_5.2.1, .inl v_5.2.2.1)), ((nu_6 2), .inl (gI G, v_5.2.1, .inl v_5.2.2.2.1)), ((nu_6 3), .inl (gI G, v_5.2.1, .inl v_5.2.2.2.2)), (q43, .inr (6, [.int 0, .int 0, .int 0])), (q54, .inr (6, [.int 0, .int 0, .int 0])), (q65, .inr (6, [.int 0, .int 0, .int 0]))]) (va_runIN (As := []) (rest := [.ref q76, .ref h0]) ⟨hx, hb, hml, hown, hts⟩ (kX6_init l G q76 H.size 0 0 0 v_13 hv_13) ⟨va_cnB 0 hts gX3_init_X6_init_n32 rfl rfl rfl hN_RX3_32 hini6 (by decide +kernel) ⟨Nat.le_of_ble_eq_true rfl, Nat.le_of_ble_eq_true rfl⟩, rfl, him_X6_init⟩ (psW hK (hP.sub (ws' := [(q76, .inr (6, [.int 0, .int 0, .int 0]))]) [18] rfl) (hD.sub (ws' := [(q76, .inr (6, [.int 0, .int 0, .int 0]))]) [18] (by decide) rfl) ) rfl rfl hl.1 rfl (lv_room (Nat.le_of_ble_eq_true rfl)) dX3_init_80 ⟨Nat.le_of_ble_eq_true rfl, Nat.le_of_ble_eq_true rfl⟩) hP hD hS hA [18] [0, 1, 2, 3, 4, 5, 6, 7, 8, 9, 10, 11, 12, 13, 14, 15, 16, 17] rfl rfl (by decide) (by decide) (fun nu_14 H locs hP hD hS => ?_)
  have hP : va_P (gD G) vwCl [(h0, .inr (3, [.ref q5, .ref q18, .ref q31, .ref q43, .ref q54, .ref q65, .null, .int z0])), (q5, .inr (4, [.ref (nu_2 0), .ref (nu_2 1), .ref (nu_2 2), .int 0])), ((nu_2 0), .inl (gI G, v_1.2.1, .inl v_1.1)), ((nu_2 1), .inl (gI G, v_1.2.1, .inl v_1.2.2.1)), ((nu_2 2), .inl (gI G, v_1.2.1, .inl v_1.2.2.2)), (q18, .inr (1, [.ref (nu_4 0), .ref (nu_4 1), .ref (nu_4 2), .ref (nu_4 3), .int 0])), ((nu_4 0), .inl (gI G, v_3.2.1, .inl v_3.1)), ((nu_4 1), .inl (gI G, v_3.2.1, .inl v_3.2.2.1)), ((nu_4 2), .inl (gI G, v_3.2.1, .inl v_3.2.2.2.1)), ((nu_4 3), .inl (gI G, v_3.2.1, .inl v_3.2.2.2.2)), (q31, .inr (1, [.ref (nu_6 0), .ref (nu_6 1), .ref (nu_6 2), .ref (nu_6 3), .int 0])), ((nu_6 0), .inl (gI G, v_5.2.1, .inl v_5.1)), ((nu_6 1), .inl (gI G, v_5.2.1, .inl v_5.2.2.1)), ((nu_6 2), .inl (gI G, v_5.2.1, .inl v_5.2.2.2.1)), ((nu_6 3), .inl (gI G, v_5.2.1, .inl v_5.2.2.2.2)), (q43, .inr (6, [.int 0, .int 0, .int 0])), (q54, .inr (6, [.int 0, .int 0, .int 0])), (q65, .inr (6, [.int 0, .int 0, .int 0])), (q76, .inr (6, [.int 0, .int 0, .int 0]))] H := hP.sub [0, 1, 2, 3, 4, 5, 6, 7, 8, 9, 10, 11, 12, 13, 14, 15, 16, 17, 18] rfl
  have hD : va_D A [(h0, .inr (3, [.ref q5, .ref q18, .ref q31, .ref q43, .ref q54, .ref q65, .null, .int z0])), (q5, .inr (4, [.ref (nu_2 0), .ref (nu_2 1), .ref (nu_2 2), .int 0])), ((nu_2 0), .inl (gI G, v_1.2.1, .inl v_1.1)), ((nu_2 1), .inl (gI G, v_1.2.1, .inl v_1.2.2.1)), ((nu_2 2), .inl (gI G, v_1.2.1, .inl v_1.2.2.2)), (q18, .inr (1, [.ref (nu_4 0), .ref (nu_4 1), .ref (nu_4 2), .ref (nu_4 3), .int 0])), ((nu_4 0), .inl (gI G, v_3.2.1, .inl v_3.1)), ((nu_4 1), .inl (gI G, v_3.2.1, .inl v_3.2.2.1)), ((nu_4 2), .inl (gI G, v_3.2.1, .inl v_3.2.2.2.1)), ((nu_4 3), .inl (gI G, v_3.2.1, .inl v_3.2.2.2.2)), (q31, .inr (1, [.ref (nu_6 0), .ref (nu_6 1), .ref (nu_6 2), .ref (nu_6 3), .int 0])), ((nu_6 0), .inl (gI G, v_5.2.1, .inl v_5.1)), ((nu_6 1), .inl (gI G, v_5.2.1, .inl v_5.2.2.1)), ((nu_6 2), .inl (gI G, v_5.2.1, .inl v_5.2.2.2.1)), ((nu_6 3), .inl (gI G, v_5.2.1, .inl v_5.2.2.2.2)), (q43, .inr (6, [.int 0, .int 0, .int 0])), (q54, .inr (6, [.int 0, .int 0, .int 0])), (q65, .inr (6, [.int 0, .int 0, .int 0])), (q76, .inr (6, [.int 0, .int 0, .int 0]))] := hD.sub [0, 1, 2, 3, 4, 5, 6, 7, 8, 9, 10, 11, 12, 13, 14, 15, 16, 17, 18] (by decide) rfl
  refine W.widen (k := 18) (n := 1136) (Nat.le_of_ble_eq_true rfl) (Nat.le_of_ble_eq_true rfl) ?_
  refine va_putF (ci := 3) (v := .ref q76) (ty := .object "SwellBodies$Step") (C := RX3) (T := TX3) (N := 8) hx hb hts hin3 tyX3 tyX3_ok nmX3 hown hK hP hD hS 0 rfl rfl 6 (by decide) hfl43 (fun _ h9 => h9) rfl hin rfl (by decide +kernel) rfl rfl (Nat.le_of_ble_eq_true rfl) dX3_init_83 (fun H locs hP hD hS => ?_)
  have hP : va_P (gD G) vwCl [(h0, .inr (3, [.ref q5, .ref q18, .ref q31, .ref q43, .ref q54, .ref q65, .ref q76, .int z0])), (q5, .inr (4, [.ref (nu_2 0), .ref (nu_2 1), .ref (nu_2 2), .int 0])), ((nu_2 0), .inl (gI G, v_1.2.1, .inl v_1.1)), ((nu_2 1), .inl (gI G, v_1.2.1, .inl v_1.2.2.1)), ((nu_2 2), .inl (gI G, v_1.2.1, .inl v_1.2.2.2)), (q18, .inr (1, [.ref (nu_4 0), .ref (nu_4 1), .ref (nu_4 2), .ref (nu_4 3), .int 0])), ((nu_4 0), .inl (gI G, v_3.2.1, .inl v_3.1)), ((nu_4 1), .inl (gI G, v_3.2.1, .inl v_3.2.2.1)), ((nu_4 2), .inl (gI G, v_3.2.1, .inl v_3.2.2.2.1)), ((nu_4 3), .inl (gI G, v_3.2.1, .inl v_3.2.2.2.2)), (q31, .inr (1, [.ref (nu_6 0), .ref (nu_6 1), .ref (nu_6 2), .ref (nu_6 3), .int 0])), ((nu_6 0), .inl (gI G, v_5.2.1, .inl v_5.1)), ((nu_6 1), .inl (gI G, v_5.2.1, .inl v_5.2.2.1)), ((nu_6 2), .inl (gI G, v_5.2.1, .inl v_5.2.2.2.1)), ((nu_6 3), .inl (gI G, v_5.2.1, .inl v_5.2.2.2.2)), (q43, .inr (6, [.int 0, .int 0, .int 0])), (q54, .inr (6, [.int 0, .int 0, .int 0])), (q65, .inr (6, [.int 0, .int 0, .int 0])), (q76, .inr (6, [.int 0, .int 0, .int 0]))] H := hP
  have hD : va_D A [(h0, .inr (3, [.ref q5, .ref q18, .ref q31, .ref q43, .ref q54, .ref q65, .ref q76, .int z0])), (q5, .inr (4, [.ref (nu_2 0), .ref (nu_2 1), .ref (nu_2 2), .int 0])), ((nu_2 0), .inl (gI G, v_1.2.1, .inl v_1.1)), ((nu_2 1), .inl (gI G, v_1.2.1, .inl v_1.2.2.1)), ((nu_2 2), .inl (gI G, v_1.2.1, .inl v_1.2.2.2)), (q18, .inr (1, [.ref (nu_4 0), .ref (nu_4 1), .ref (nu_4 2), .ref (nu_4 3), .int 0])), ((nu_4 0), .inl (gI G, v_3.2.1, .inl v_3.1)), ((nu_4 1), .inl (gI G, v_3.2.1, .inl v_3.2.2.1)), ((nu_4 2), .inl (gI G, v_3.2.1, .inl v_3.2.2.2.1)), ((nu_4 3), .inl (gI G, v_3.2.1, .inl v_3.2.2.2.2)), (q31, .inr (1, [.ref (nu_6 0), .ref (nu_6 1), .ref (nu_6 2), .ref (nu_6 3), .int 0])), ((nu_6 0), .inl (gI G, v_5.2.1, .inl v_5.1)), ((nu_6 1), .inl (gI G, v_5.2.1, .inl v_5.2.2.1)), ((nu_6 2), .inl (gI G, v_5.2.1, .inl v_5.2.2.2.1)), ((nu_6 3), .inl (gI G, v_5.2.1, .inl v_5.2.2.2.2)), (q43, .inr (6, [.int 0, .int 0, .int 0])), (q54, .inr (6, [.int 0, .int 0, .int 0])), (q65, .inr (6, [.int 0, .int 0, .int 0])), (q76, .inr (6, [.int 0, .int 0, .int 0]))] := hD
  have hP : va_P (gD G) vwCl [(h0, .inr (3, [.ref q5, .ref q18, .ref q31, .ref q43, .ref q54, .ref q65, .ref q76, .int z0])), (q5, .inr (4, [.ref (nu_2 0), .ref (nu_2 1), .ref (nu_2 2), .int 0])), (q18, .inr (1, [.ref (nu_4 0), .ref (nu_4 1), .ref (nu_4 2), .ref (nu_4 3), .int 0])), (q31, .inr (1, [.ref (nu_6 0), .ref (nu_6 1), .ref (nu_6 2), .ref (nu_6 3), .int 0])), (q43, .inr (6, [.int 0, .int 0, .int 0])), (q54, .inr (6, [.int 0, .int 0, .int 0])), (q65, .inr (6, [.int 0, .int 0, .int 0])), (q76, .inr (6, [.int 0, .int 0, .int 0])), ((nu_2 0), .inl (gI G, v_1.2.1, .inl v_1.1)), ((nu_2 1), .inl (gI G, v_1.2.1, .inl v_1.2.2.1)), ((nu_2 2), .inl (gI G, v_1.2.1, .inl v_1.2.2.2)), ((nu_4 0), .inl (gI G, v_3.2.1, .inl v_3.1)), ((nu_4 1), .inl (gI G, v_3.2.1, .inl v_3.2.2.1)), ((nu_4 2), .inl (gI G, v_3.2.1, .inl v_3.2.2.2.1)), ((nu_4 3), .inl (gI G, v_3.2.1, .inl v_3.2.2.2.2)), ((nu_6 0), .inl (gI G, v_5.2.1, .inl v_5.1)), ((nu_6 1), .inl (gI G, v_5.2.1, .inl v_5.2.2.1)), ((nu_6 2), .inl (gI G, v_5.2.1, .inl v_5.2.2.2.1)), ((nu_6 3), .inl (gI G, v_5.2.1, .inl v_5.2.2.2.2))] H := hP.sub [0, 1, 5, 10, 15, 16, 17, 18, 2, 3, 4, 6, 7, 8, 9, 11, 12, 13, 14] rfl
  have hD : va_D A [(h0, .inr (3, [.ref q5, .ref q18, .ref q31, .ref q43, .ref q54, .ref q65, .ref q76, .int z0])), (q5, .inr (4, [.ref (nu_2 0), .ref (nu_2 1), .ref (nu_2 2), .int 0])), (q18, .inr (1, [.ref (nu_4 0), .ref (nu_4 1), .ref (nu_4 2), .ref (nu_4 3), .int 0])), (q31, .inr (1, [.ref (nu_6 0), .ref (nu_6 1), .ref (nu_6 2), .ref (nu_6 3), .int 0])), (q43, .inr (6, [.int 0, .int 0, .int 0])), (q54, .inr (6, [.int 0, .int 0, .int 0])), (q65, .inr (6, [.int 0, .int 0, .int 0])), (q76, .inr (6, [.int 0, .int 0, .int 0])), ((nu_2 0), .inl (gI G, v_1.2.1, .inl v_1.1)), ((nu_2 1), .inl (gI G, v_1.2.1, .inl v_1.2.2.1)), ((nu_2 2), .inl (gI G, v_1.2.1, .inl v_1.2.2.2)), ((nu_4 0), .inl (gI G, v_3.2.1, .inl v_3.1)), ((nu_4 1), .inl (gI G, v_3.2.1, .inl v_3.2.2.1)), ((nu_4 2), .inl (gI G, v_3.2.1, .inl v_3.2.2.2.1)), ((nu_4 3), .inl (gI G, v_3.2.1, .inl v_3.2.2.2.2)), ((nu_6 0), .inl (gI G, v_5.2.1, .inl v_5.1)), ((nu_6 1), .inl (gI G, v_5.2.1, .inl v_5.2.2.1)), ((nu_6 2), .inl (gI G, v_5.2.1, .inl v_5.2.2.2.1)), ((nu_6 3), .inl (gI G, v_5.2.1, .inl v_5.2.2.2.2))] := hD.sub [0, 1, 5, 10, 15, 16, 17, 18, 2, 3, 4, 6, 7, 8, 9, 11, 12, 13, 14] (by decide) rfl
  refine W.widen (k := 40) (n := 2000) (Nat.le_of_ble_eq_true rfl) (Nat.le_of_ble_eq_true rfl) ?_
  exact W.vret hx hb hr (fun t ht hW => ⟨⟨(0, 0, 0, 0, 0, 0, 0, 0, 0, 0, 0, 0, 0, 0, 0, v_1.1, v_1.2.1, v_1.2.2.1, v_1.2.2.2, v_3.1, v_3.2.1, v_3.2.2.1, v_3.2.2.2.1, v_3.2.2.2.2, v_5.1, v_5.2.1, v_5.2.2.1, v_5.2.2.2.1, v_5.2.2.2.2), rfl, so_e hF, (fun i => [q5, q18, q31, q43, q54, q65, q76, (nu_2 0), (nu_2 1), (nu_2 2), (nu_4 0), (nu_4 1), (nu_4 2), (nu_4 3), (nu_6 0), (nu_6 1), (nu_6 2), (nu_6 3)].getD i 0), qW_mk ht hP hK hW hD⟩, hS.F ht⟩) hS.2.2 dX3_init_86
