abbrev wBGc (G : GT) (f0 c0 s0 b0 al ag aw o0 : Nat) (fl : Int32) (mo : Int32) : va_W := [(f0, .inr (0, [.int fl, .int mo, .ref c0, .ref s0, .ref b0, .ref al, .ref ag, .ref aw, .ref o0]))]
def fX0_growth_c  : Option (Unit) :=
  (some ())
abbrev rX0_growth_c : Room := { frames := 0, cells := 0, slots := 0, locals := 0 }
set_option maxHeartbeats 40000000 in
set_option maxRecDepth 100000 in
theorem kX0_growth_c (l : Launch) (G : GT) (f0 c0 s0 b0 al ag aw o0 : Nat) (fl : Int32) (mo : Int32) (res : Unit) (hF : fX0_growth_c = some res) : Met l yX0_growth wsX0_growth rX0_growth_c (va_Pc [.ref f0] (pR G (wBGc G f0 c0 s0 b0 al ag aw o0 fl mo))) (va_Sq (fun r => r = some o0)) 0 0 (fun _ => False) := by
  refine Met.ofW (cc := cX0_growth) (maxL := 3) (ret := (some (.object "SwellBodies$Growth"))) (by decide) rfl ?_
  intro p e s m args below meth c s₁ B hml hv
  obtain ⟨rfl, hP, hK⟩ := hv
  have hx := B.exec
  have hb := B.bytes
  have hr := B.returns
  have hts := atoms_spec (ws := wsX0_growth) B.pre
  have hown : s.vm.findClass RX0 = some m.cls := findClass_of_methodNamed B.named
  have hlocks := B.notSynchronized
  have hin0 : ∀ w ∈ u_ws RX0 TX0 9, w ∈ wsX0_growth := by decide +kernel
  have hfl89 := hts (.fieldLink RX0 89 "SwellBodies$Body" "growth" "LSwellBodies$Growth;") (by decide +kernel)
  have hl := lv_entry ([.ref f0]) (n := 3) (Nat.le_of_ble_eq_true rfl)
  rw [lg_entry_eq]
  generalize (lg_sl ([.ref f0]) ++ List.replicate (3 - (lg_sl ([.ref f0])).length) Slot.unset).toArray = ls at hl ⊢
  have hl : lv_has ls 3 [(0, .ref f0)] := hl
  unfold fX0_growth_c at hF
  refine lv_aload_n hx hb dX0_growth_0 rfl (lv_at hl 0 rfl) ?_
  refine va_get (ci := 0) (v := .ref o0) (C := RX0) (T := TX0) (N := 9) hx hb hts hin0 hown hK hP 0 rfl rfl 8 (by decide) hfl89 (fun _ h9 => h9) rfl dX0_growth_1 ?_
  refine lv_ifnonnull (tgt := 63) hx hb dX0_growth_4 (by decide) ?_
  refine lv_aload_n hx hb dX0_growth_63 rfl (lv_at hl 0 rfl) ?_
  refine va_get (ci := 0) (v := .ref o0) (C := RX0) (T := TX0) (N := 9) hx hb hts hin0 hown hK hP 0 rfl rfl 8 (by decide) hfl89 (fun _ h9 => h9) rfl dX0_growth_64 ?_
  exact W.aret (v := .ref o0) hx hb hr (Or.inl ⟨_, rfl⟩) (Or.inr ⟨_, rfl⟩) (fun t ht hW => ⟨(some o0), rfl, rfl, ht⟩) (fun q h => absurd h List.not_mem_nil) dX0_growth_67
