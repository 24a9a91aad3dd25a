theorem sq_sw (x y z t : V4) : dt (sq3 y z t) x = - dt (sq3 x z t) y := by unfold dt sq3 det3; grind
theorem sq_sw2 (x y z t : V4) : dt (sq3 y z t) x = dt (sq3 x y t) z := by unfold dt sq3 det3; grind
theorem sq_sw3 (x y z t : V4) : dt (sq3 y z t) x = - dt (sq3 x y z) t := by unfold dt sq3 det3; grind
theorem cr1 (a b c e x : V4) : dt (sq3 b c e) a * x.1 = dt (sq3 b c e) x * a.1 + (- dt (sq3 a c e) x) * b.1 + (dt (sq3 a b e) x * c.1 + (- dt (sq3 a b c) x) * e.1) := by unfold dt sq3 det3; grind
theorem cr2 (a b c e x : V4) : dt (sq3 b c e) a * x.2.1 = dt (sq3 b c e) x * a.2.1 + (- dt (sq3 a c e) x) * b.2.1 + (dt (sq3 a b e) x * c.2.1 + (- dt (sq3 a b c) x) * e.2.1) := by unfold dt sq3 det3; grind
theorem cr3 (a b c e x : V4) : dt (sq3 b c e) a * x.2.2.1 = dt (sq3 b c e) x * a.2.2.1 + (- dt (sq3 a c e) x) * b.2.2.1 + (dt (sq3 a b e) x * c.2.2.1 + (- dt (sq3 a b c) x) * e.2.2.1) := by unfold dt sq3 det3; grind
theorem cr4 (a b c e x : V4) : dt (sq3 b c e) a * x.2.2.2 = dt (sq3 b c e) x * a.2.2.2 + (- dt (sq3 a c e) x) * b.2.2.2 + (dt (sq3 a b e) x * c.2.2.2 + (- dt (sq3 a b c) x) * e.2.2.2) := by unfold dt sq3 det3; grind
/-- the forms that read the shares of four vectors, times a sign -/
def crf (b : Nat → V4) (s : Int) : Nat → V4 := fun i => if i = 0 then sm s (sq3 (b 1) (b 2) (b 3)) else if i = 1 then sm (-s) (sq3 (b 0) (b 2) (b 3)) else if i = 2 then sm s (sq3 (b 0) (b 1) (b 3)) else sm (-s) (sq3 (b 0) (b 1) (b 2))
theorem Fr_det (b : Nat → V4) (h : dt (sq3 (b 1) (b 2) (b 3)) (b 0) ≠ 0) : ∃ s : Int, Fr b (crf b s) (s * dt (sq3 (b 1) (b 2) (b 3)) (b 0)) := by
  have hs : ∃ s : Int, 0 < s * dt (sq3 (b 1) (b 2) (b 3)) (b 0) := by
    by_cases c : 0 < dt (sq3 (b 1) (b 2) (b 3)) (b 0)
    · exact ⟨1, by omega⟩
    · exact ⟨-1, by omega⟩
  obtain ⟨s, hs⟩ := hs
  have v1 : dt (sq3 (b 0) (b 2) (b 3)) (b 1) = - dt (sq3 (b 1) (b 2) (b 3)) (b 0) := by have := sq_sw (b 0) (b 1) (b 2) (b 3); omega
  have v2 : dt (sq3 (b 0) (b 1) (b 3)) (b 2) = dt (sq3 (b 1) (b 2) (b 3)) (b 0) := (sq_sw2 (b 0) (b 1) (b 2) (b 3)).symm
  have v3 : dt (sq3 (b 0) (b 1) (b 2)) (b 3) = - dt (sq3 (b 1) (b 2) (b 3)) (b 0) := by have := sq_sw3 (b 0) (b 1) (b 2) (b 3); omega
  have r0 : ∀ x, dt (crf b s 0) x = s * dt (sq3 (b 1) (b 2) (b 3)) x := fun x => sm_dt _ _ _
  have r1 : ∀ x, dt (crf b s 1) x = -s * dt (sq3 (b 0) (b 2) (b 3)) x := fun x => sm_dt _ _ _
  have r2 : ∀ x, dt (crf b s 2) x = s * dt (sq3 (b 0) (b 1) (b 3)) x := fun x => sm_dt _ _ _
  have r3 : ∀ x, dt (crf b s 3) x = -s * dt (sq3 (b 0) (b 1) (b 2)) x := fun x => sm_dt _ _ _
  refine ⟨s, hs, ?_, fun x => ?_⟩
  · intro i j hi hj
    rcases four hi with rfl | rfl | rfl | rfl <;> rcases four hj with rfl | rfl | rfl | rfl <;> simp only [r0, r1, r2, r3, sq3_1, sq3_2, sq3_3, v1, v2, v3] <;> simp [Int.neg_mul_neg]
  · refine v4_ext ?_ ?_ ?_ ?_
    · rw [t4_c1, r0, r1, r2, r3]
      have := cr1 (b 0) (b 1) (b 2) (b 3) x
      show s * dt (sq3 (b 1) (b 2) (b 3)) (b 0) * x.1 = _
      rw [Int.mul_assoc, this]
      grind
    · rw [t4_c2, r0, r1, r2, r3]
      have := cr2 (b 0) (b 1) (b 2) (b 3) x
      show s * dt (sq3 (b 1) (b 2) (b 3)) (b 0) * x.2.1 = _
      rw [Int.mul_assoc, this]
      grind
    · rw [t4_c3, r0, r1, r2, r3]
      have := cr3 (b 0) (b 1) (b 2) (b 3) x
      show s * dt (sq3 (b 1) (b 2) (b 3)) (b 0) * x.2.2.1 = _
      rw [Int.mul_assoc, this]
      grind
    · rw [t4_c4, r0, r1, r2, r3]
      have := cr4 (b 0) (b 1) (b 2) (b 3) x
      show s * dt (sq3 (b 1) (b 2) (b 3)) (b 0) * x.2.2.2 = _
      rw [Int.mul_assoc, this]
      grind
