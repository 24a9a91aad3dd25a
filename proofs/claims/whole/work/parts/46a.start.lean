/-! the law's beginning: what the tables say, the two objects -/
theorem arrK {args : Array Value} {s : State} {ty : FieldType} (hr : ∀ (U : State) (c : ClassId), va_RA U c ty = (U.vm.findClass ("[" ++ ty.toString) = some c)) (h : (Cond.arrayClass ty).before args s = true) : ∃ cA, ArrOfT s cA ty ∧ va_RA s cA ty := by
  obtain ⟨cA, kA, comp, h1, h2, h3⟩ := Cond.arrayClass_spec h
  exact ⟨cA, fun n z => ⟨fun k h => (by cases h), kA, h2, comp, h3⟩, by rw [hr]; exact h1⟩
theorem arrQ {s : State} {C : String} (h : va_AO C s) : ∃ cA, ArrOfT s cA (.object C) ∧ va_RA s cA (.object C) := by
  obtain ⟨comp, cA, kA, h1, h2, h3, h4, h5⟩ := Cond.arrayOver_spec h
  exact ⟨cA, fun n z => ⟨fun k h => (by cases h), kA, h3, comp, h4⟩, kA, comp, h3, h4, h1, h5⟩
theorem law_gN {args : Array Value} {s : State} (hts : ∀ w ∈ lw_tbl, w.before args s = true) : gN s :=
  ⟨va_Nw.of rfl (hts _ (by decide +kernel)), va_Nw.of rfl (hts _ (by decide +kernel)), va_Nw.of rfl (hts _ (by decide +kernel)), va_AO.of (hts (.arrayOver (.object "SwellBodies$Body")) (by decide +kernel)), va_AO.of (hts (.arrayOver (.object "SwellBodies$Sheaf")) (by decide +kernel)), va_AO.of (hts (.arrayOver (.object "SwellBodies$Swelling")) (by decide +kernel))⟩
theorem law_hK {args : Array Value} {s : State} (hts : ∀ w ∈ lw_tbl, w.before args s = true) : ∃ G : GT, va_K (gD G) vwCl (gT G) s := by
  have hN := law_gN hts
  obtain ⟨c0, i0, k0⟩ := u_known (C := RX0) (T := TX0) (N := 9) (n := 9) hts wl_c0 (hts (.instantiable RX0 9) (by decide +kernel))
  obtain ⟨c1, i1, k1⟩ := u_known (C := RX1) (T := TX1) (N := 5) (n := 5) hts wl_c1 (hts (.instantiable RX1 5) (by decide +kernel))
  obtain ⟨c2, i2, k2⟩ := u_known (C := RX2) (T := TX2) (N := 2) (n := 2) hts wl_c2 (hts (.instantiable RX2 2) (by decide +kernel))
  obtain ⟨c3, i3, k3⟩ := u_known (C := RX3) (T := TX3) (N := 8) (n := 8) hts wl_c3 (hts (.instantiable RX3 8) (by decide +kernel))
  obtain ⟨c4, i4, k4⟩ := u_known (C := RX4) (T := TX4) (N := 4) (n := 4) hts wl_c4 (hts (.instantiable RX4 4) (by decide +kernel))
  obtain ⟨c5, i5, k5⟩ := u_known (C := RX5) (T := TX5) (N := 3) (n := 3) hts wl_c5 (hts (.instantiable RX5 3) (by decide +kernel))
  obtain ⟨c6, i6, k6⟩ := u_known (C := RX6) (T := TX6) (N := 3) (n := 3) hts wl_c6 (hts (.instantiable RX6 3) (by decide +kernel))
  obtain ⟨c7, i7, k7⟩ := u_known (C := RX7) (T := TX7) (N := 12) (n := 12) hts wl_c7 (hts (.instantiable RX7 12) (by decide +kernel))
  obtain ⟨c8, i8, k8⟩ := u_known (C := RX8) (T := TX8) (N := 5) (n := 5) hts wl_c8 (hts (.instantiable RX8 5) (by decide +kernel))
  obtain ⟨c9, i9, k9⟩ := u_known (C := RX9) (T := TX9) (N := 24) (n := 24) hts wl_c9 (hts (.instantiable RX9 24) (by decide +kernel))
  obtain ⟨aI, pI, qI⟩ := arrK (ty := .int) (fun _ _ => rfl) (hts (.arrayClass .int) (by decide +kernel))
  obtain ⟨aJ, pJ, qJ⟩ := arrK (ty := .long) (fun _ _ => rfl) (hts (.arrayClass .long) (by decide +kernel))
  obtain ⟨aB, pB, qB⟩ := arrQ hN.2.2.2.1
  obtain ⟨aS, pS, qS⟩ := arrQ hN.2.2.2.2.1
  obtain ⟨aW, pW, qW⟩ := arrQ hN.2.2.2.2.2
  refine ⟨(fun k => [c0, c1, c2, c3, c4, c5, c6, c7, c8, c9].getD k c0, fun k => [i0, i1, i2, i3, i4, i5, i6, i7, i8, i9].getD k i0, aI, aJ, aB, aS, aW), fun c q hq => ?_, fun k q hk => ?_⟩
  · have hc : c < 10 := by
      have := (List.getElem?_eq_some_iff.mp hq).1
      exact this
    rcases (show c = 0 ∨ c = 1 ∨ c = 2 ∨ c = 3 ∨ c = 4 ∨ c = 5 ∨ c = 6 ∨ c = 7 ∨ c = 8 ∨ c = 9 by omega) with rfl | rfl | rfl | rfl | rfl | rfl | rfl | rfl | rfl | rfl <;> cases hq
    · exact k0
    · exact k1
    · exact k2
    · exact k3
    · exact k4
    · exact k5
    · exact k6
    · exact k7
    · exact k8
    · exact k9
  · have hc : k < 5 := by
      have := (List.getElem?_eq_some_iff.mp hk).1
      exact this
    rcases (show k = 0 ∨ k = 1 ∨ k = 2 ∨ k = 3 ∨ k = 4 by omega) with rfl | rfl | rfl | rfl | rfl <;> cases hk
    · exact ⟨pI, qI⟩
    · exact ⟨pJ, qJ⟩
    · exact ⟨pB, qB⟩
    · exact ⟨pS, qS⟩
    · exact ⟨pW, qW⟩
