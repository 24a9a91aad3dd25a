/-! Math.floorDiv(int, int): the class is none of the plain ones, so it is walked as Math.max is in the library -/
abbrev yFD : MethodName := yJ9_floorDiv_7cf53
theorem fd_noRow0 : (NativeRow.find? natives yFD.cls yFD.name yFD.desc).isNone = true := by decide +kernel
theorem fd_noRow (p : Program) : NativeRow.find? p.tables.natives yFD.cls yFD.name yFD.desc = none := by
  cases p <;> exact Option.isNone_iff_eq_none.mp fd_noRow0
def fdv (a b : Int32) : Int32 := if 0 ≤ a ^^^ b then a / b else if a / b * b = a then a / b else a / b + (-1)
def fdSpec (a b : Int32) : Spec := { pre := .and (.code yFD cJ9_floorDiv_7cf53 3 (some .int)) (.and (.count 2) (.and (.isInt (.arg 0)) (.and (.isInt (.arg 1)) (.and (.eq (.arg 0) (.int a)) (.eq (.arg 1) (.int b)))))), post := .and .returned (.eq .result (.int (fdv a b))), changes := some [] }
theorem fd_eq {x y : Int32} {args : Array Value} {s : State} {k : Nat} (hk : args[k]? = some (.int x)) (h : (Cond.eq (.arg k) (.int y)).before args s = true) : x = y := by
  simp [Cond.before, Cond.holds, Cond.value, Term.eval, hk] at h
  exact h
set_option maxHeartbeats 4000000 in
theorem fd_meets (l : Launch) (a b : Int32) (hb0 : ¬ b = 0) : MeetsLoose l yFD (fdSpec a b) := by
  refine MeetsLoose.of_body_ov (code := cJ9_floorDiv_7cf53) (maxLocals := 3) (ret := some .int) fd_noRow ?_ ?_
  · intro args s h
    simp only [fdSpec, Cond.before_and, Bool.and_eq_true] at h
    exact h.1
  · intro p e s m args below meth c s₁ B
    have hpre := B.pre
    simp only [fdSpec, Cond.before_and, Bool.and_eq_true] at hpre
    obtain ⟨a', b', rfl⟩ := Cond.two_ints hpre.2.1 hpre.2.2.1 hpre.2.2.2.1
    obtain rfl : a' = a := fd_eq (k := 0) rfl hpre.2.2.2.2.1
    obtain rfl : b' = b := fd_eq (k := 1) rfl hpre.2.2.2.2.2
    have hloc : argsToLocals #[.int a', .int b'] 3 = #[.val (.int a'), .val (.int b'), .unset] := rfl
    have fin : ∀ r : Int32, r = fdv a' b' → (∀ fs, Steps p.tables e below (s₁.setTop (entryFrame m #[.int a', .int b'] 3)) (s₁.setFrames fs) ∨ handOver s₁ (some (.int r)) below ≠ some fs) →
        ∃ s₂ o, Steps p.tables e below (s₁.setTop (entryFrame m #[.int a', .int b'] 3)) s₂ ∧ s₂.status = .running ∧ Ended s₂ below o ∧
          (fdSpec a' b').ensures #[.int a', .int b'] s o s₂ := by
      intro r hr hwalk
      obtain ⟨fs, hfs⟩ := handOver_isSome (s := s₁) (some (.int r)) B.hears₁
      refine ⟨s₁.setFrames fs, .returned (some (.int r)), (hwalk fs).resolve_right (fun h => h hfs), B.here.running, B.ended hfs (by intro h; cases h), ?_, State.sameBut_nil.mpr ?_⟩
      · simp [fdSpec, Cond.after, Cond.holds, Cond.value, Term.eval, hr]
      · rw [State.frames_setFrames _ B.cur₁, B.back]
    by_cases h1 : 0 ≤ a' ^^^ b'
    · refine fin (a' / b') (by unfold fdv; rw [if_pos h1]) (fun fs => ?_)
      by_cases hfs : handOver s₁ (some (.int (a' / b'))) below = some fs
      · left
        unfold entryFrame; rw [hloc]
        refine Steps.instrAtOv (c := _) (by simpa using B.here) ?_
        simp [jvm, wpRun, exec, B.here.top, B.exec, B.bytes, dJ9_floorDiv_7cf53_0]
        refine Steps.instrAtOv (c := _) (by simpa using B.here) ?_
        simp [jvm, wpRun, exec, B.here.top, B.exec, B.bytes, dJ9_floorDiv_7cf53_1]
        refine Steps.instrAtOv (c := _) (by simpa using B.here) ?_
        simp [jvm, wpRun, exec, B.here.top, B.exec, B.bytes, dJ9_floorDiv_7cf53_2, hb0]
        refine Steps.instrAtOv (c := _) (by simpa using B.here) ?_
        simp [jvm, wpRun, exec, B.here.top, B.exec, B.bytes, dJ9_floorDiv_7cf53_3]
        sorry
      · exact Or.inr hfs
    · sorry
